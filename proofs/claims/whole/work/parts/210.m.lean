def f_X10_slipped_L78 (K : Int → Mem → Option (Int × Mem)) (p0 : Int) (x12 : Int) (i7 : Int) : Nat → Int → Int → Mem → Option (Int × Mem)
  | 0, _, _, _ => none
  | u + 1, i8, i9, mu78 => if w32 i9 < w32 x12 then (bd (f_X10_setOf mu78 i7 x12 i9) fun r25 m24 => vl (zor i8 (zand p0 (zxor r25 (-1)))) fun x26 => f_X10_slipped_L78 K p0 x12 i7 u x26 (i9 + 1) m24) else (K i8 mu78)
set_option maxRecDepth 40000 in
theorem j_X10_slipped_L78 {l : Launch} {G : qG} {K : Int → Mem → Option (Int × Mem)} {p0 : Int} {x12 : Int} {i7 : Int} {p1 : Int} {i5 : Int} (hK : ∀ (x8 : Int) (m : Mem), qJ l G yX10_slipped cX10_slipped 10 (some .int) 6 110 [some (.ref 67), some (.int (iI p0)), some (.int (iI p1)), none, some (.int (iI x12)), some (.int (iI i5)), none, some (.int (iI i7)), some (.int (iI x8)), none] [] (lay m) (lf eI (K x8 m))) : ∀ (u : Nat) (i8 : Int) (i9 : Int) (mu78 : Mem), qJ l G yX10_slipped cX10_slipped 10 (some .int) 6 78 [some (.ref 67), some (.int (iI p0)), some (.int (iI p1)), none, some (.int (iI x12)), some (.int (iI i5)), none, some (.int (iI i7)), some (.int (iI i8)), some (.int (iI i9))] [] (lay mu78) (lf eI (f_X10_slipped_L78 K p0 x12 i7 u i8 i9 mu78)) := by
  intro u
  induction u with
  | zero => intro _ _ mu78; exact T_none
  | succ u ih =>
    intro i8 i9 mu78
    rw [f_X10_slipped_L78]
    refine J_iload (pc := 78) dX10_slipped_78 rfl ?_
    refine J_iload (pc := 80) dX10_slipped_80 rfl ?_
    refine T_icmp_ge (pc := 82) (tgt := 110) dX10_slipped_82 (by decide) (fun h23 => ?_) (fun h23 => ?_)
    · refine J_dropf (pc := 110) (L' := [some (.ref 67), some (.int (iI p0)), some (.int (iI p1)), none, some (.int (iI x12)), some (.int (iI i5)), none, some (.int (iI i7)), some (.int (iI i8)), none]) [true, true, true, false, true, true, false, true, true, false] rfl ?_
      exact hK i8 mu78
    · refine J_iload (pc := 85) dX10_slipped_85 rfl ?_
      refine J_iload_n (pc := 87) dX10_slipped_87 rfl rfl ?_
      refine J_aload_n (pc := 88) dX10_slipped_88 rfl rfl rfl ?_
      refine J_iload (pc := 89) dX10_slipped_89 rfl ?_
      refine J_iload (pc := 91) dX10_slipped_91 rfl ?_
      refine J_iload (pc := 93) dX10_slipped_93 rfl ?_
      refine T_callVI (pc := 95) (As := [.int (iI i7), .int (iI x12), .int (iI i9)]) (k := 67) (st := [.int (iI p0), .int (iI i8)]) ok_yX10_setOf lm_X10_248 dX10_slipped_95 (by decide) rfl rfl (by decide) (Nat.le_of_ble_eq_true rfl) (m_X10_setOf mu78 i7 x12 i9) (fun r25 m24 em24 => ?_)
      refine J_iconst (pc := 98) dX10_slipped_98 ?_
      refine J_ixor (pc := 99) dX10_slipped_99 ?_
      refine J_iand (pc := 100) dX10_slipped_100 ?_
      refine J_ior (pc := 101) dX10_slipped_101 ?_
      refine T_vlI (pc := 102) (fun x26 ex26 => ?_)
      refine J_istore (pc := 102) (L' := [some (.ref 67), some (.int (iI p0)), some (.int (iI p1)), none, some (.int (iI x12)), some (.int (iI i5)), none, some (.int (iI i7)), some (.int (iI x26)), some (.int (iI i9))]) dX10_slipped_102 (by decide) rfl rfl ?_
      refine J_iinc (pc := 104) (L' := [some (.ref 67), some (.int (iI p0)), some (.int (iI p1)), none, some (.int (iI x12)), some (.int (iI i5)), none, some (.int (iI i7)), some (.int (iI x26)), some (.int (iI (i9 + 1)))]) dX10_slipped_104 rfl (by decide) rfl rfl ?_
      refine J_goto (pc := 107) (tgt := 78) dX10_slipped_107 (by decide) ?_
      exact ih x26 (i9 + 1) m24
def f_X10_slipped_L50 (K : Int → Int → Mem → Option (Int × Mem)) (p0 : Int) (p1 : Int) (x12 : Int) : Nat → Int → Int → Int → Mem → Option (Int × Mem)
  | 0, _, _, _, _ => none
  | u + 1, i5, i6, i7, mu50 => bd (f_X10_codes mu50 x12) fun r14 m13 => if w32 i7 < w32 r14 then (bd (f_X10_isSo m13 p0 p1 i7) fun r17 m16 => jn (κ := Int → Int → Mem → Option (Int × Mem)) (fun x20 x21 m19 => f_X10_slipped_L50 K p0 p1 x12 u x20 x21 (i7 + 1) m19) fun k18 => if w32 r17 = 0 then (k18 i5 i6 m16) else (f_X10_slipped_L78 (fun x27 m28 => vl (zand i5 x27) fun x29 => k18 x29 1 m28) p0 x12 i7 100000 0 0 m16)) else (K i5 i6 m13)
set_option maxRecDepth 40000 in
theorem j_X10_slipped_L50 {l : Launch} {G : qG} {K : Int → Int → Mem → Option (Int × Mem)} {p0 : Int} {p1 : Int} {x12 : Int} (hK : ∀ (x5 : Int) (x6 : Int) (m : Mem), qJ l G yX10_slipped cX10_slipped 10 (some .int) 6 126 [none, none, none, none, none, some (.int (iI x5)), some (.int (iI x6)), none, none, none] [] (lay m) (lf eI (K x5 x6 m))) : ∀ (u : Nat) (i5 : Int) (i6 : Int) (i7 : Int) (mu50 : Mem), qJ l G yX10_slipped cX10_slipped 10 (some .int) 6 50 [some (.ref 67), some (.int (iI p0)), some (.int (iI p1)), none, some (.int (iI x12)), some (.int (iI i5)), some (.int (iI i6)), some (.int (iI i7)), none, none] [] (lay mu50) (lf eI (f_X10_slipped_L50 K p0 p1 x12 u i5 i6 i7 mu50)) := by
  intro u
  induction u with
  | zero => intro _ _ _ mu50; exact T_none
  | succ u ih =>
    intro i5 i6 i7 mu50
    rw [f_X10_slipped_L50]
    refine J_iload (pc := 50) dX10_slipped_50 rfl ?_
    refine J_aload_n (pc := 52) dX10_slipped_52 rfl rfl rfl ?_
    refine J_iload (pc := 53) dX10_slipped_53 rfl ?_
    refine T_callVI (pc := 55) (As := [.int (iI x12)]) (k := 67) (st := [.int (iI i7)]) ok_yX10_codes lm_X10_251 dX10_slipped_55 (by decide) rfl rfl (by decide) (Nat.le_of_ble_eq_true rfl) (m_X10_codes mu50 x12) (fun r14 m13 em13 => ?_)
    refine T_icmp_ge (pc := 58) (tgt := 126) dX10_slipped_58 (by decide) (fun h15 => ?_) (fun h15 => ?_)
    · refine J_dropf (pc := 126) (L' := [none, none, none, none, none, some (.int (iI i5)), some (.int (iI i6)), none, none, none]) [false, false, false, false, false, true, true, false, false, false] rfl ?_
      exact hK i5 i6 m13
    · refine J_aload_n (pc := 61) dX10_slipped_61 rfl rfl rfl ?_
      refine J_iload_n (pc := 62) dX10_slipped_62 rfl rfl ?_
      refine J_iload_n (pc := 63) dX10_slipped_63 rfl rfl ?_
      refine J_iload (pc := 64) dX10_slipped_64 rfl ?_
      refine T_callVI (pc := 66) (As := [.int (iI p0), .int (iI p1), .int (iI i7)]) (k := 67) (st := []) ok_yX10_isSo lm_X10_280 dX10_slipped_66 (by decide) rfl rfl (by decide) (Nat.le_of_ble_eq_true rfl) (m_X10_isSo m13 p0 p1 i7) (fun r17 m16 em16 => ?_)
      refine T_jn (κ := Int → Int → Mem → Option (Int × Mem)) (fun k => ∀ (x20 : Int) (x21 : Int) (m19 : Mem), qJ l G yX10_slipped cX10_slipped 10 (some .int) 6 120 [some (.ref 67), some (.int (iI p0)), some (.int (iI p1)), none, some (.int (iI x12)), some (.int (iI x20)), some (.int (iI x21)), some (.int (iI i7)), none, none] [] (lay m19) (lf eI (k x20 x21 m19))) ?_ (fun k18 hk18 => ?_)
      · intro x20 x21 m19
        refine J_iinc (pc := 120) (L' := [some (.ref 67), some (.int (iI p0)), some (.int (iI p1)), none, some (.int (iI x12)), some (.int (iI x20)), some (.int (iI x21)), some (.int (iI (i7 + 1))), none, none]) dX10_slipped_120 rfl (by decide) rfl rfl ?_
        refine J_goto (pc := 123) (tgt := 50) dX10_slipped_123 (by decide) ?_
        exact ih x20 x21 (i7 + 1) m19
      · refine T_if_eq (pc := 69) (tgt := 120) dX10_slipped_69 (by decide) (fun h22 => ?_) (fun h22 => ?_)
        · exact hk18 i5 i6 m16
        · refine J_iconst (pc := 72) dX10_slipped_72 ?_
          refine J_istore (pc := 73) (L' := [some (.ref 67), some (.int (iI p0)), some (.int (iI p1)), none, some (.int (iI x12)), some (.int (iI i5)), some (.int (iI i6)), some (.int (iI i7)), some (.int (iI 0)), none]) dX10_slipped_73 (by decide) rfl rfl ?_
          refine J_iconst (pc := 75) dX10_slipped_75 ?_
          refine J_istore (pc := 76) (L' := [some (.ref 67), some (.int (iI p0)), some (.int (iI p1)), none, some (.int (iI x12)), some (.int (iI i5)), some (.int (iI i6)), some (.int (iI i7)), some (.int (iI 0)), some (.int (iI 0))]) dX10_slipped_76 (by decide) rfl rfl ?_
          refine J_dropf (pc := 78) (L' := [some (.ref 67), some (.int (iI p0)), some (.int (iI p1)), none, some (.int (iI x12)), some (.int (iI i5)), none, some (.int (iI i7)), some (.int (iI 0)), some (.int (iI 0))]) [true, true, true, false, true, true, false, true, true, true] rfl ?_
          refine j_X10_slipped_L78 ?_ 100000 0 0 m16
          · intro x27 m28
            refine J_iload (pc := 110) dX10_slipped_110 rfl ?_
            refine J_iload (pc := 112) dX10_slipped_112 rfl ?_
            refine J_iand (pc := 114) dX10_slipped_114 ?_
            refine T_vlI (pc := 115) (fun x29 ex29 => ?_)
            refine J_istore (pc := 115) (L' := [some (.ref 67), some (.int (iI p0)), some (.int (iI p1)), none, some (.int (iI x12)), some (.int (iI x29)), none, some (.int (iI i7)), some (.int (iI x27)), none]) dX10_slipped_115 (by decide) rfl rfl ?_
            refine J_iconst (pc := 117) dX10_slipped_117 ?_
            refine J_istore (pc := 118) (L' := [some (.ref 67), some (.int (iI p0)), some (.int (iI p1)), none, some (.int (iI x12)), some (.int (iI x29)), some (.int (iI 1)), some (.int (iI i7)), some (.int (iI x27)), none]) dX10_slipped_118 (by decide) rfl rfl ?_
            refine J_dropf (pc := 120) (L' := [some (.ref 67), some (.int (iI p0)), some (.int (iI p1)), none, some (.int (iI x12)), some (.int (iI x29)), some (.int (iI 1)), some (.int (iI i7)), none, none]) [true, true, true, false, true, true, true, true, false, false] rfl ?_
            exact hk18 x29 1 m28
def f_X10_slipped (m0 : Mem) (p0 : Int) (p1 : Int) : Option (Int × Mem) := bd (f_X10_isSet m0 p0) fun r2 m1 => if w32 r2 = 0 then (some ((-1), m1)) else (bd (f_X10_isRow m1 p1) fun r5 m4 => if w32 r5 = 0 then (some ((-1), m4)) else (bd (f_X10_seenRefused m4 p1) fun r8 m7 => if w32 r8 = 0 then (bd (f_X10_save m7) fun _u m10 => ck p1 6 (vl (m10 76 (w32 p1).toNat) fun x12 => f_X10_slipped_L50 (fun x30 x31 m32 => vl (if w32 x31 = 0 then 0 else x30) fun v33 => some (v33, m32)) p0 p1 x12 100000 p0 0 0 m10)) else (some (r8, m7))))
set_option maxRecDepth 40000 in
theorem m_X10_slipped {l : Launch} {G : qG} (m0 : Mem) (p0 : Int) (p1 : Int) : qM l G 6 yX10_slipped cX10_slipped 10 (some .int) [.ref 67, .int (iI p0), .int (iI p1)] (lay m0) (lf eI (f_X10_slipped m0 p0 p1)) := by
  refine qM_of (L := [some (.ref 67), some (.int (iI p0)), some (.int (iI p1)), none, none, none, none, none, none, none]) (by decide +kernel) (Nat.le_of_ble_eq_true rfl) rfl ?_
  unfold f_X10_slipped
  refine J_aload_n (pc := 0) dX10_slipped_0 rfl rfl rfl ?_
  refine J_iload_n (pc := 1) dX10_slipped_1 rfl rfl ?_
  refine T_callVI (pc := 2) (As := [.int (iI p0)]) (k := 67) (st := []) ok_yX10_isSet lm_X10_218 dX10_slipped_2 (by decide) rfl rfl (by decide) (Nat.le_of_ble_eq_true rfl) (m_X10_isSet m0 p0) (fun r2 m1 em1 => ?_)
  refine T_if_eq (pc := 5) (tgt := 15) dX10_slipped_5 (by decide) (fun h3 => ?_) (fun h3 => ?_)
  · refine J_iconst (pc := 15) dX10_slipped_15 ?_
    exact T_retI (pc := 16) rfl dX10_slipped_16
  · refine J_iload_n (pc := 8) dX10_slipped_8 rfl rfl ?_
    refine T_callSI (pc := 9) (As := [.int (iI p1)]) (st := []) ok_yX10_isRow lm_X10_110 dX10_slipped_9 (by decide) (Nat.le_of_ble_eq_true rfl) (m_X10_isRow m1 p1) (fun r5 m4 em4 => ?_)
    refine T_if_ne (pc := 12) (tgt := 17) dX10_slipped_12 (by decide) (fun h6 => ?_) (fun h6 => ?_)
    · refine J_aload_n (pc := 17) dX10_slipped_17 rfl rfl rfl ?_
      refine J_iload_n (pc := 18) dX10_slipped_18 rfl rfl ?_
      refine T_callVI (pc := 19) (As := [.int (iI p1)]) (k := 67) (st := []) ok_yX10_seenRefused lm_X10_277 dX10_slipped_19 (by decide) rfl rfl (by decide) (Nat.le_of_ble_eq_true rfl) (m_X10_seenRefused m4 p1) (fun r8 m7 em7 => ?_)
      refine J_istore_n (pc := 22) (L' := [some (.ref 67), some (.int (iI p0)), some (.int (iI p1)), some (.int (iI r8)), none, none, none, none, none, none]) dX10_slipped_22 rfl (by decide) rfl rfl ?_
      refine J_iload_n (pc := 23) dX10_slipped_23 rfl rfl ?_
      refine T_if_eq (pc := 24) (tgt := 29) dX10_slipped_24 (by decide) (fun h9 => ?_) (fun h9 => ?_)
      · refine J_aload_n (pc := 29) dX10_slipped_29 rfl rfl rfl ?_
        refine T_callVU (pc := 30) (As := []) (k := 67) (st := []) ok_yX10_save lm_X10_232 dX10_slipped_30 (by decide) rfl rfl (by decide) (Nat.le_of_ble_eq_true rfl) (m_X10_save m7) (fun _u m10 em10 => ?_)
        refine J_aload_n (pc := 33) dX10_slipped_33 rfl rfl rfl ?_
        refine tg_X10_38 (pc := 34) rfl dX10_slipped_34 ?_
        refine J_iload_n (pc := 37) dX10_slipped_37 rfl rfl ?_
        refine T_iaload (pc := 38) (by decide) rfl dX10_slipped_38 (fun h11 => ?_)
        refine T_vlI (pc := 39) (fun x12 ex12 => ?_)
        refine J_istore (pc := 39) (L' := [some (.ref 67), some (.int (iI p0)), some (.int (iI p1)), some (.int (iI r8)), some (.int (iI x12)), none, none, none, none, none]) dX10_slipped_39 (by decide) rfl rfl ?_
        refine J_iload_n (pc := 41) dX10_slipped_41 rfl rfl ?_
        refine J_istore (pc := 42) (L' := [some (.ref 67), some (.int (iI p0)), some (.int (iI p1)), some (.int (iI r8)), some (.int (iI x12)), some (.int (iI p0)), none, none, none, none]) dX10_slipped_42 (by decide) rfl rfl ?_
        refine J_iconst (pc := 44) dX10_slipped_44 ?_
        refine J_istore (pc := 45) (L' := [some (.ref 67), some (.int (iI p0)), some (.int (iI p1)), some (.int (iI r8)), some (.int (iI x12)), some (.int (iI p0)), some (.int (iI 0)), none, none, none]) dX10_slipped_45 (by decide) rfl rfl ?_
        refine J_iconst (pc := 47) dX10_slipped_47 ?_
        refine J_istore (pc := 48) (L' := [some (.ref 67), some (.int (iI p0)), some (.int (iI p1)), some (.int (iI r8)), some (.int (iI x12)), some (.int (iI p0)), some (.int (iI 0)), some (.int (iI 0)), none, none]) dX10_slipped_48 (by decide) rfl rfl ?_
        refine J_dropf (pc := 50) (L' := [some (.ref 67), some (.int (iI p0)), some (.int (iI p1)), none, some (.int (iI x12)), some (.int (iI p0)), some (.int (iI 0)), some (.int (iI 0)), none, none]) [true, true, true, false, true, true, true, true, false, false] rfl ?_
        refine j_X10_slipped_L50 ?_ 100000 p0 0 0 m10
        · intro x30 x31 m32
          refine J_iload (pc := 126) dX10_slipped_126 rfl ?_
          refine T_vl (fun v33 ev33 => ?_)
          refine T_dia (j := 137) (v := v33) (LT := [none, none, none, none, none, some (.int (iI x30)), some (.int (iI x31)), none, none, none]) (sT := []) ?_ (fun hj34 => ?_)
          · exact T_retI (pc := 137) rfl dX10_slipped_137
          · refine T_if_eq_same (pc := 128) (tgt := 136) dX10_slipped_128 (by decide) (fun h35 => ?_) (fun h35 => ?_)
            · refine J_iconst (pc := 136) dX10_slipped_136 ?_
              exact T_top (by rw [ev33, if_pos h35]) hj34
            · refine J_iload (pc := 131) dX10_slipped_131 rfl ?_
              refine J_goto (pc := 133) (tgt := 137) dX10_slipped_133 (by decide) ?_
              exact T_top (by rw [ev33, if_neg h35]) hj34
      · refine J_iload_n (pc := 27) dX10_slipped_27 rfl rfl ?_
        exact T_retI (pc := 28) rfl dX10_slipped_28
    · refine J_iconst (pc := 15) dX10_slipped_15 ?_
      exact T_retI (pc := 16) rfl dX10_slipped_16
def f_X10_tellOdds_L6 (K : Int → Mem → Option (Unit × Mem)) : Nat → Int → Int → Mem → Option (Unit × Mem)
  | 0, _, _, _ => none
  | u + 1, i5, i7, mu6 => if w32 (ycmp i7 0) = 0 then (K i5 mu6) else (ckl i7 (vl (yrem i5 i7) fun x2 => f_X10_tellOdds_L6 K u i7 x2 mu6))
set_option maxRecDepth 40000 in
theorem j_X10_tellOdds_L6 {l : Launch} {G : qG} {K : Int → Mem → Option (Unit × Mem)} {p0 : Int} {p1 : Int} (hK : ∀ (x5 : Int) (m : Mem), qJ l G yX10_tellOdds cX10_tellOdds 11 none 1 31 [some (.ref 67), some (.long (iL p0)), none, some (.long (iL p1)), none, some (.long (iL x5)), none, none, none, none, none] [] (lay m) (lf eU (K x5 m))) : ∀ (u : Nat) (i5 : Int) (i7 : Int) (mu6 : Mem), qJ l G yX10_tellOdds cX10_tellOdds 11 none 1 6 [some (.ref 67), some (.long (iL p0)), none, some (.long (iL p1)), none, some (.long (iL i5)), none, some (.long (iL i7)), none, none, none] [] (lay mu6) (lf eU (f_X10_tellOdds_L6 K u i5 i7 mu6)) := by
  intro u
  induction u with
  | zero => intro _ _ mu6; exact T_none
  | succ u ih =>
    intro i5 i7 mu6
    rw [f_X10_tellOdds_L6]
    refine J_lload (pc := 6) dX10_tellOdds_6 rfl ?_
    refine J_lconst (pc := 8) (z := 0) dX10_tellOdds_8 (by decide) ?_
    refine J_lcmp (pc := 9) dX10_tellOdds_9 ?_
    refine T_if_eq (pc := 10) (tgt := 31) dX10_tellOdds_10 (by decide) (fun h1 => ?_) (fun h1 => ?_)
    · refine J_dropf (pc := 31) (L' := [some (.ref 67), some (.long (iL p0)), none, some (.long (iL p1)), none, some (.long (iL i5)), none, none, none, none, none]) [true, true, false, true, false, true, false, false, false, false, false] rfl ?_
      exact hK i5 mu6
    · refine J_lload (pc := 13) dX10_tellOdds_13 rfl ?_
      refine J_lload (pc := 15) dX10_tellOdds_15 rfl ?_
      refine T_lrem (pc := 17) dX10_tellOdds_17 ?_
      refine T_vlL (pc := 18) (fun x2 ex2 => ?_)
      refine J_lstore (pc := 18) (L' := [some (.ref 67), some (.long (iL p0)), none, some (.long (iL p1)), none, some (.long (iL i5)), none, some (.long (iL i7)), none, some (.long (iL x2)), none]) dX10_tellOdds_18 (by decide) rfl rfl ?_
      refine J_lload (pc := 20) dX10_tellOdds_20 rfl ?_
      refine J_lstore (pc := 22) (L' := [some (.ref 67), some (.long (iL p0)), none, some (.long (iL p1)), none, some (.long (iL i7)), none, some (.long (iL i7)), none, some (.long (iL x2)), none]) dX10_tellOdds_22 (by decide) rfl rfl ?_
      refine J_lload (pc := 24) dX10_tellOdds_24 rfl ?_
      refine J_lstore (pc := 26) (L' := [some (.ref 67), some (.long (iL p0)), none, some (.long (iL p1)), none, some (.long (iL i7)), none, some (.long (iL x2)), none, some (.long (iL x2)), none]) dX10_tellOdds_26 (by decide) rfl rfl ?_
      refine J_goto (pc := 28) (tgt := 6) dX10_tellOdds_28 (by decide) ?_
      refine J_dropf (pc := 6) (L' := [some (.ref 67), some (.long (iL p0)), none, some (.long (iL p1)), none, some (.long (iL i7)), none, some (.long (iL x2)), none, none, none]) [true, true, false, true, false, true, false, true, false, false, false] rfl ?_
      exact ih i7 x2 mu6
def f_X10_tellOdds (m0 : Mem) (p0 : Int) (p1 : Int) : Option (Unit × Mem) := f_X10_tellOdds_L6 (fun x3 m4 => ckl x3 (vm (wr m4 67 11 (ydiv p0 x3)) fun m5 => ckl x3 (vm (wr m5 67 12 (ydiv p1 x3)) fun m6 => some ((), m6)))) 100000 p0 p1 m0
set_option maxRecDepth 40000 in
theorem m_X10_tellOdds {l : Launch} {G : qG} (m0 : Mem) (p0 : Int) (p1 : Int) : qM l G 1 yX10_tellOdds cX10_tellOdds 11 none [.ref 67, .long (iL p0), .long (iL p1)] (lay m0) (lf eU (f_X10_tellOdds m0 p0 p1)) := by
  refine qM_of (L := [some (.ref 67), some (.long (iL p0)), none, some (.long (iL p1)), none, none, none, none, none, none, none]) (by decide +kernel) (Nat.le_of_ble_eq_true rfl) rfl ?_
  unfold f_X10_tellOdds
  refine J_lload_n (pc := 0) dX10_tellOdds_0 rfl rfl ?_
  refine J_lstore (pc := 1) (L' := [some (.ref 67), some (.long (iL p0)), none, some (.long (iL p1)), none, some (.long (iL p0)), none, none, none, none, none]) dX10_tellOdds_1 (by decide) rfl rfl ?_
  refine J_lload_n (pc := 3) dX10_tellOdds_3 rfl rfl ?_
  refine J_lstore (pc := 4) (L' := [some (.ref 67), some (.long (iL p0)), none, some (.long (iL p1)), none, some (.long (iL p0)), none, some (.long (iL p1)), none, none, none]) dX10_tellOdds_4 (by decide) rfl rfl ?_
  refine j_X10_tellOdds_L6 ?_ 100000 p0 p1 m0
  · intro x3 m4
    refine J_aload_n (pc := 31) dX10_tellOdds_31 rfl rfl rfl ?_
    refine J_lload_n (pc := 32) dX10_tellOdds_32 rfl rfl ?_
    refine J_lload (pc := 33) dX10_tellOdds_33 rfl ?_
    refine T_ldiv (pc := 35) dX10_tellOdds_35 ?_
    refine tp_X10_284 (pc := 36) rfl dX10_tellOdds_36 ?_
    refine T_vm (fun m5 em5 => ?_)
    refine J_aload_n (pc := 39) dX10_tellOdds_39 rfl rfl rfl ?_
    refine J_lload_n (pc := 40) dX10_tellOdds_40 rfl rfl ?_
    refine J_lload (pc := 41) dX10_tellOdds_41 rfl ?_
    refine T_ldiv (pc := 43) dX10_tellOdds_43 ?_
    refine tp_X10_31 (pc := 44) rfl dX10_tellOdds_44 ?_
    refine T_vm (fun m6 em6 => ?_)
    exact T_retV (pc := 47) rfl dX10_tellOdds_47
def f_X10_odds_L73 (K : Int → Mem → Option (Int × Mem)) (p0 : Int) (p1 : Int) (i6 : Int) : Nat → Int → Int → Mem → Option (Int × Mem)
  | 0, _, _, _ => none
  | u + 1, i7, i8, mu73 => if w32 i8 < w32 p1 then (jn (κ := Int → Mem → Option (Int × Mem)) (fun s18 m17 => f_X10_odds_L73 K p0 p1 i6 u s18 (i8 + 1) m17) fun k16 => jn (κ := Mem → Option (Int × Mem)) (fun m20 => k16 0 m20) fun k19 => if w32 i7 = 0 then (k19 mu73) else (bd (f_X10_setOf mu73 i6 p1 i8) fun r23 m22 => if w32 (zand r23 (zxor p0 (-1))) = 0 then (k16 1 m22) else (k19 m22))) else (K i7 mu73)
set_option maxRecDepth 40000 in
theorem j_X10_odds_L73 {l : Launch} {G : qG} {K : Int → Mem → Option (Int × Mem)} {p0 : Int} {p1 : Int} {i6 : Int} {p2 : Int} {i4 : Int} {i5 : Int} (hK : ∀ (x7 : Int) (m : Mem), qJ l G yX10_odds cX10_odds 9 (some .int) 6 113 [some (.ref 67), some (.int (iI p0)), some (.int (iI p1)), some (.int (iI p2)), some (.int (iI i4)), some (.int (iI i5)), some (.int (iI i6)), some (.int (iI x7)), none] [] (lay m) (lf eI (K x7 m))) : ∀ (u : Nat) (i7 : Int) (i8 : Int) (mu73 : Mem), qJ l G yX10_odds cX10_odds 9 (some .int) 6 73 [some (.ref 67), some (.int (iI p0)), some (.int (iI p1)), some (.int (iI p2)), some (.int (iI i4)), some (.int (iI i5)), some (.int (iI i6)), some (.int (iI i7)), some (.int (iI i8))] [] (lay mu73) (lf eI (f_X10_odds_L73 K p0 p1 i6 u i7 i8 mu73)) := by
  intro u
  induction u with
  | zero => intro _ _ mu73; exact T_none
  | succ u ih =>
    intro i7 i8 mu73
    rw [f_X10_odds_L73]
    refine J_iload (pc := 73) dX10_odds_73 rfl ?_
    refine J_iload_n (pc := 75) dX10_odds_75 rfl rfl ?_
    refine T_icmp_ge (pc := 76) (tgt := 113) dX10_odds_76 (by decide) (fun h15 => ?_) (fun h15 => ?_)
    · refine J_dropf (pc := 113) (L' := [some (.ref 67), some (.int (iI p0)), some (.int (iI p1)), some (.int (iI p2)), some (.int (iI i4)), some (.int (iI i5)), some (.int (iI i6)), some (.int (iI i7)), none]) [true, true, true, true, true, true, true, true, false] rfl ?_
      exact hK i7 mu73
    · refine J_iload (pc := 79) dX10_odds_79 rfl ?_
      refine T_jn (κ := Int → Mem → Option (Int × Mem)) (fun k => ∀ (s18 : Int) (m17 : Mem), qJ l G yX10_odds cX10_odds 9 (some .int) 6 105 [some (.ref 67), some (.int (iI p0)), some (.int (iI p1)), some (.int (iI p2)), some (.int (iI i4)), some (.int (iI i5)), some (.int (iI i6)), none, some (.int (iI i8))] [.int (iI s18)] (lay m17) (lf eI (k s18 m17))) ?_ (fun k16 hk16 => ?_)
      · intro s18 m17
        refine J_istore (pc := 105) (L' := [some (.ref 67), some (.int (iI p0)), some (.int (iI p1)), some (.int (iI p2)), some (.int (iI i4)), some (.int (iI i5)), some (.int (iI i6)), some (.int (iI s18)), some (.int (iI i8))]) dX10_odds_105 (by decide) rfl rfl ?_
        refine J_iinc (pc := 107) (L' := [some (.ref 67), some (.int (iI p0)), some (.int (iI p1)), some (.int (iI p2)), some (.int (iI i4)), some (.int (iI i5)), some (.int (iI i6)), some (.int (iI s18)), some (.int (iI (i8 + 1)))]) dX10_odds_107 rfl (by decide) rfl rfl ?_
        refine J_goto (pc := 110) (tgt := 73) dX10_odds_110 (by decide) ?_
        exact ih s18 (i8 + 1) m17
      · refine T_jn (κ := Mem → Option (Int × Mem)) (fun k => ∀ (m20 : Mem), qJ l G yX10_odds cX10_odds 9 (some .int) 6 104 [some (.ref 67), some (.int (iI p0)), some (.int (iI p1)), some (.int (iI p2)), some (.int (iI i4)), some (.int (iI i5)), some (.int (iI i6)), none, some (.int (iI i8))] [] (lay m20) (lf eI (k m20))) ?_ (fun k19 hk19 => ?_)
        · intro m20
          refine J_iconst (pc := 104) dX10_odds_104 ?_
          exact hk16 0 m20
        · refine T_if_eq (pc := 81) (tgt := 104) dX10_odds_81 (by decide) (fun h21 => ?_) (fun h21 => ?_)
          · refine J_dropf (pc := 104) (L' := [some (.ref 67), some (.int (iI p0)), some (.int (iI p1)), some (.int (iI p2)), some (.int (iI i4)), some (.int (iI i5)), some (.int (iI i6)), none, some (.int (iI i8))]) [true, true, true, true, true, true, true, false, true] rfl ?_
            exact hk19  mu73
          · refine J_aload_n (pc := 84) dX10_odds_84 rfl rfl rfl ?_
            refine J_iload (pc := 85) dX10_odds_85 rfl ?_
            refine J_iload_n (pc := 87) dX10_odds_87 rfl rfl ?_
            refine J_iload (pc := 88) dX10_odds_88 rfl ?_
            refine T_callVI (pc := 90) (As := [.int (iI i6), .int (iI p1), .int (iI i8)]) (k := 67) (st := []) ok_yX10_setOf lm_X10_248 dX10_odds_90 (by decide) rfl rfl (by decide) (Nat.le_of_ble_eq_true rfl) (m_X10_setOf mu73 i6 p1 i8) (fun r23 m22 em22 => ?_)
            refine J_iload_n (pc := 93) dX10_odds_93 rfl rfl ?_
            refine J_iconst (pc := 94) dX10_odds_94 ?_
            refine J_ixor (pc := 95) dX10_odds_95 ?_
            refine J_iand (pc := 96) dX10_odds_96 ?_
            refine T_if_ne (pc := 97) (tgt := 104) dX10_odds_97 (by decide) (fun h24 => ?_) (fun h24 => ?_)
            · refine J_dropf (pc := 104) (L' := [some (.ref 67), some (.int (iI p0)), some (.int (iI p1)), some (.int (iI p2)), some (.int (iI i4)), some (.int (iI i5)), some (.int (iI i6)), none, some (.int (iI i8))]) [true, true, true, true, true, true, true, false, true] rfl ?_
              exact hk19  m22
            · refine J_iconst (pc := 100) dX10_odds_100 ?_
              refine J_goto (pc := 101) (tgt := 105) dX10_odds_101 (by decide) ?_
              refine J_dropf (pc := 105) (L' := [some (.ref 67), some (.int (iI p0)), some (.int (iI p1)), some (.int (iI p2)), some (.int (iI i4)), some (.int (iI i5)), some (.int (iI i6)), none, some (.int (iI i8))]) [true, true, true, true, true, true, true, false, true] rfl ?_
              exact hk16 1 m22
def f_X10_odds_L57 (K : Int → Int → Mem → Option (Int × Mem)) (p0 : Int) (p1 : Int) (p2 : Int) : Nat → Int → Int → Int → Mem → Option (Int × Mem)
  | 0, _, _, _, _ => none
  | u + 1, i4, i5, i6, mu57 => bd (f_X10_codes mu57 p1) fun r13 m12 => if w32 i6 < w32 r13 then (f_X10_odds_L73 (fun x25 m26 => jn (κ := Int → Int → Mem → Option (Int × Mem)) (fun x29 x30 m28 => f_X10_odds_L57 K p0 p1 p2 u x29 x30 (i6 + 1) m28) fun k27 => if w32 x25 = 0 then (k27 i4 i5 m26) else (bd (f_X10_goPlan m26 i6 p1) fun r33 m32 => ck 0 16 (vl (if w32 (m32 73 (w32 0).toNat) < w32 p2 then 0 else 1) fun v35 => vl (i5 + v35) fun x37 => bd (f_X10_putBack m32) fun _u m38 => k27 (i4 + 1) x37 m38))) p0 p1 i6 100000 1 0 m12) else (K i4 i5 m12)
set_option maxRecDepth 40000 in
theorem j_X10_odds_L57 {l : Launch} {G : qG} {K : Int → Int → Mem → Option (Int × Mem)} {p0 : Int} {p1 : Int} {p2 : Int} (hK : ∀ (x4 : Int) (x5 : Int) (m : Mem), qJ l G yX10_odds cX10_odds 9 (some .int) 6 160 [some (.ref 67), none, none, none, some (.int (iI x4)), some (.int (iI x5)), none, none, none] [] (lay m) (lf eI (K x4 x5 m))) : ∀ (u : Nat) (i4 : Int) (i5 : Int) (i6 : Int) (mu57 : Mem), qJ l G yX10_odds cX10_odds 9 (some .int) 6 57 [some (.ref 67), some (.int (iI p0)), some (.int (iI p1)), some (.int (iI p2)), some (.int (iI i4)), some (.int (iI i5)), some (.int (iI i6)), none, none] [] (lay mu57) (lf eI (f_X10_odds_L57 K p0 p1 p2 u i4 i5 i6 mu57)) := by
  intro u
  induction u with
  | zero => intro _ _ _ mu57; exact T_none
  | succ u ih =>
    intro i4 i5 i6 mu57
    rw [f_X10_odds_L57]
    refine J_iload (pc := 57) dX10_odds_57 rfl ?_
    refine J_aload_n (pc := 59) dX10_odds_59 rfl rfl rfl ?_
    refine J_iload_n (pc := 60) dX10_odds_60 rfl rfl ?_
    refine T_callVI (pc := 61) (As := [.int (iI p1)]) (k := 67) (st := [.int (iI i6)]) ok_yX10_codes lm_X10_251 dX10_odds_61 (by decide) rfl rfl (by decide) (Nat.le_of_ble_eq_true rfl) (m_X10_codes mu57 p1) (fun r13 m12 em12 => ?_)
    refine T_icmp_ge (pc := 64) (tgt := 160) dX10_odds_64 (by decide) (fun h14 => ?_) (fun h14 => ?_)
    · refine J_dropf (pc := 160) (L' := [some (.ref 67), none, none, none, some (.int (iI i4)), some (.int (iI i5)), none, none, none]) [true, false, false, false, true, true, false, false, false] rfl ?_
      exact hK i4 i5 m12
    · refine J_iconst (pc := 67) dX10_odds_67 ?_
      refine J_istore (pc := 68) (L' := [some (.ref 67), some (.int (iI p0)), some (.int (iI p1)), some (.int (iI p2)), some (.int (iI i4)), some (.int (iI i5)), some (.int (iI i6)), some (.int (iI 1)), none]) dX10_odds_68 (by decide) rfl rfl ?_
      refine J_iconst (pc := 70) dX10_odds_70 ?_
      refine J_istore (pc := 71) (L' := [some (.ref 67), some (.int (iI p0)), some (.int (iI p1)), some (.int (iI p2)), some (.int (iI i4)), some (.int (iI i5)), some (.int (iI i6)), some (.int (iI 1)), some (.int (iI 0))]) dX10_odds_71 (by decide) rfl rfl ?_
      refine j_X10_odds_L73 ?_ 100000 1 0 m12
      · intro x25 m26
        refine J_iload (pc := 113) dX10_odds_113 rfl ?_
        refine T_jn (κ := Int → Int → Mem → Option (Int × Mem)) (fun k => ∀ (x29 : Int) (x30 : Int) (m28 : Mem), qJ l G yX10_odds cX10_odds 9 (some .int) 6 154 [some (.ref 67), some (.int (iI p0)), some (.int (iI p1)), some (.int (iI p2)), some (.int (iI x29)), some (.int (iI x30)), some (.int (iI i6)), none, none] [] (lay m28) (lf eI (k x29 x30 m28))) ?_ (fun k27 hk27 => ?_)
        · intro x29 x30 m28
          refine J_iinc (pc := 154) (L' := [some (.ref 67), some (.int (iI p0)), some (.int (iI p1)), some (.int (iI p2)), some (.int (iI x29)), some (.int (iI x30)), some (.int (iI (i6 + 1))), none, none]) dX10_odds_154 rfl (by decide) rfl rfl ?_
          refine J_goto (pc := 157) (tgt := 57) dX10_odds_157 (by decide) ?_
          exact ih x29 x30 (i6 + 1) m28
        · refine T_if_eq (pc := 115) (tgt := 154) dX10_odds_115 (by decide) (fun h31 => ?_) (fun h31 => ?_)
          · refine J_dropf (pc := 154) (L' := [some (.ref 67), some (.int (iI p0)), some (.int (iI p1)), some (.int (iI p2)), some (.int (iI i4)), some (.int (iI i5)), some (.int (iI i6)), none, none]) [true, true, true, true, true, true, true, false, false] rfl ?_
            exact hk27 i4 i5 m26
          · refine J_aload_n (pc := 118) dX10_odds_118 rfl rfl rfl ?_
            refine J_iload (pc := 119) dX10_odds_119 rfl ?_
            refine J_iload_n (pc := 121) dX10_odds_121 rfl rfl ?_
            refine T_callVI (pc := 122) (As := [.int (iI i6), .int (iI p1)]) (k := 67) (st := []) ok_yX10_goPlan lm_X10_254 dX10_odds_122 (by decide) rfl rfl (by decide) (Nat.le_of_ble_eq_true rfl) (m_X10_goPlan m26 i6 p1) (fun r33 m32 em32 => ?_)
            refine J_istore (pc := 125) (L' := [some (.ref 67), some (.int (iI p0)), some (.int (iI p1)), some (.int (iI p2)), some (.int (iI i4)), some (.int (iI i5)), some (.int (iI i6)), some (.int (iI x25)), some (.int (iI r33))]) dX10_odds_125 (by decide) rfl rfl ?_
            refine J_iload (pc := 127) dX10_odds_127 rfl ?_
            refine J_aload_n (pc := 129) dX10_odds_129 rfl rfl rfl ?_
            refine tg_X10_25 (pc := 130) rfl dX10_odds_130 ?_
            refine J_iconst (pc := 133) dX10_odds_133 ?_
            refine T_iaload (pc := 134) (by decide) rfl dX10_odds_134 (fun h34 => ?_)
            refine J_iload_n (pc := 135) dX10_odds_135 rfl rfl ?_
            refine T_vl (fun v35 ev35 => ?_)
            refine T_dia (j := 144) (v := v35) (LT := [some (.ref 67), some (.int (iI p0)), some (.int (iI p1)), some (.int (iI p2)), some (.int (iI i4)), some (.int (iI i5)), some (.int (iI i6)), some (.int (iI x25)), some (.int (iI r33))]) (sT := [.int (iI i5)]) ?_ (fun hj36 => ?_)
            · refine J_iadd (pc := 144) dX10_odds_144 ?_
              refine T_vlI (pc := 145) (fun x37 ex37 => ?_)
              refine J_istore (pc := 145) (L' := [some (.ref 67), some (.int (iI p0)), some (.int (iI p1)), some (.int (iI p2)), some (.int (iI i4)), some (.int (iI x37)), some (.int (iI i6)), some (.int (iI x25)), some (.int (iI r33))]) dX10_odds_145 (by decide) rfl rfl ?_
              refine J_iinc (pc := 147) (L' := [some (.ref 67), some (.int (iI p0)), some (.int (iI p1)), some (.int (iI p2)), some (.int (iI (i4 + 1))), some (.int (iI x37)), some (.int (iI i6)), some (.int (iI x25)), some (.int (iI r33))]) dX10_odds_147 rfl (by decide) rfl rfl ?_
              refine J_aload_n (pc := 150) dX10_odds_150 rfl rfl rfl ?_
              refine T_callVU (pc := 151) (As := []) (k := 67) (st := []) ok_yX10_putBack lm_X10_239 dX10_odds_151 (by decide) rfl rfl (by decide) (Nat.le_of_ble_eq_true rfl) (m_X10_putBack m32) (fun _u m38 em38 => ?_)
              refine J_dropf (pc := 154) (L' := [some (.ref 67), some (.int (iI p0)), some (.int (iI p1)), some (.int (iI p2)), some (.int (iI (i4 + 1))), some (.int (iI x37)), some (.int (iI i6)), none, none]) [true, true, true, true, true, true, true, false, false] rfl ?_
              exact hk27 (i4 + 1) x37 m38
            · refine T_icmp_lt_same (pc := 136) (tgt := 143) dX10_odds_136 (by decide) (fun h39 => ?_) (fun h39 => ?_)
              · refine J_iconst (pc := 143) dX10_odds_143 ?_
                exact T_top (by rw [ev35, if_pos h39]) hj36
              · refine J_iconst (pc := 139) dX10_odds_139 ?_
                refine J_goto (pc := 140) (tgt := 144) dX10_odds_140 (by decide) ?_
                exact T_top (by rw [ev35, if_neg h39]) hj36
def f_X10_odds (m0 : Mem) (p0 : Int) (p1 : Int) (p2 : Int) : Option (Int × Mem) := bd (f_X10_isSet m0 p0) fun r2 m1 => if w32 r2 = 0 then (some ((-1), m1)) else (bd (f_X10_in m1 (w32 p1) 0 3) fun r5 m4 => if w32 r5 = 0 then (some ((-1), m4)) else (bd (f_X10_in m4 (w32 p2) 0 99) fun r8 m7 => if w32 r8 = 0 then (some ((-1), m7)) else (if w32 (m7 67 0) = 0 then (some ((-4), m7)) else (bd (f_X10_save m7) fun _u m11 => f_X10_odds_L57 (fun x40 x41 m42 => bd (f_X10_tellOdds m42 (w32 x41) (w32 x40)) fun _u m43 => some (1, m43)) p0 p1 p2 100000 0 0 0 m11))))
set_option maxRecDepth 40000 in
theorem m_X10_odds {l : Launch} {G : qG} (m0 : Mem) (p0 : Int) (p1 : Int) (p2 : Int) : qM l G 6 yX10_odds cX10_odds 9 (some .int) [.ref 67, .int (iI p0), .int (iI p1), .int (iI p2)] (lay m0) (lf eI (f_X10_odds m0 p0 p1 p2)) := by
  refine qM_of (L := [some (.ref 67), some (.int (iI p0)), some (.int (iI p1)), some (.int (iI p2)), none, none, none, none, none]) (by decide +kernel) (Nat.le_of_ble_eq_true rfl) rfl ?_
  unfold f_X10_odds
  refine J_aload_n (pc := 0) dX10_odds_0 rfl rfl rfl ?_
  refine J_iload_n (pc := 1) dX10_odds_1 rfl rfl ?_
  refine T_callVI (pc := 2) (As := [.int (iI p0)]) (k := 67) (st := []) ok_yX10_isSet lm_X10_218 dX10_odds_2 (by decide) rfl rfl (by decide) (Nat.le_of_ble_eq_true rfl) (m_X10_isSet m0 p0) (fun r2 m1 em1 => ?_)
  refine T_if_eq (pc := 5) (tgt := 32) dX10_odds_5 (by decide) (fun h3 => ?_) (fun h3 => ?_)
  · refine J_iconst (pc := 32) dX10_odds_32 ?_
    exact T_retI (pc := 33) rfl dX10_odds_33
  · refine J_iload_n (pc := 8) dX10_odds_8 rfl rfl ?_
    refine J_i2l (pc := 9) dX10_odds_9 ?_
    refine J_lconst (pc := 10) (z := 0) dX10_odds_10 (by decide) ?_
    refine J_ldc2 (pc := 11) (z := 3) dX10_odds_11 lk_X10_102 (by decide) ?_
    refine T_callSI (pc := 14) (As := [.long (iL (w32 p1)), .long (iL 0), .long (iL 3)]) (st := []) ok_yX10_in lm_X10_98 dX10_odds_14 (by decide) (Nat.le_of_ble_eq_true rfl) (m_X10_in m1 (w32 p1) 0 3) (fun r5 m4 em4 => ?_)
    refine T_if_eq (pc := 17) (tgt := 32) dX10_odds_17 (by decide) (fun h6 => ?_) (fun h6 => ?_)
    · refine J_iconst (pc := 32) dX10_odds_32 ?_
      exact T_retI (pc := 33) rfl dX10_odds_33
    · refine J_iload_n (pc := 20) dX10_odds_20 rfl rfl ?_
      refine J_i2l (pc := 21) dX10_odds_21 ?_
      refine J_lconst (pc := 22) (z := 0) dX10_odds_22 (by decide) ?_
      refine J_ldc2 (pc := 23) (z := 99) dX10_odds_23 lk_X10_287 (by decide) ?_
      refine T_callSI (pc := 26) (As := [.long (iL (w32 p2)), .long (iL 0), .long (iL 99)]) (st := []) ok_yX10_in lm_X10_98 dX10_odds_26 (by decide) (Nat.le_of_ble_eq_true rfl) (m_X10_in m4 (w32 p2) 0 99) (fun r8 m7 em7 => ?_)
      refine T_if_ne (pc := 29) (tgt := 34) dX10_odds_29 (by decide) (fun h9 => ?_) (fun h9 => ?_)
      · refine J_aload_n (pc := 34) dX10_odds_34 rfl rfl rfl ?_
        refine tg_X10_104 (pc := 35) rfl dX10_odds_35 ?_
        refine T_if_ne (pc := 38) (tgt := 44) dX10_odds_38 (by decide) (fun h10 => ?_) (fun h10 => ?_)
        · refine J_aload_n (pc := 44) dX10_odds_44 rfl rfl rfl ?_
          refine T_callVU (pc := 45) (As := []) (k := 67) (st := []) ok_yX10_save lm_X10_232 dX10_odds_45 (by decide) rfl rfl (by decide) (Nat.le_of_ble_eq_true rfl) (m_X10_save m7) (fun _u m11 em11 => ?_)
          refine J_iconst (pc := 48) dX10_odds_48 ?_
          refine J_istore (pc := 49) (L' := [some (.ref 67), some (.int (iI p0)), some (.int (iI p1)), some (.int (iI p2)), some (.int (iI 0)), none, none, none, none]) dX10_odds_49 (by decide) rfl rfl ?_
          refine J_iconst (pc := 51) dX10_odds_51 ?_
          refine J_istore (pc := 52) (L' := [some (.ref 67), some (.int (iI p0)), some (.int (iI p1)), some (.int (iI p2)), some (.int (iI 0)), some (.int (iI 0)), none, none, none]) dX10_odds_52 (by decide) rfl rfl ?_
          refine J_iconst (pc := 54) dX10_odds_54 ?_
          refine J_istore (pc := 55) (L' := [some (.ref 67), some (.int (iI p0)), some (.int (iI p1)), some (.int (iI p2)), some (.int (iI 0)), some (.int (iI 0)), some (.int (iI 0)), none, none]) dX10_odds_55 (by decide) rfl rfl ?_
          refine j_X10_odds_L57 ?_ 100000 0 0 0 m11
          · intro x40 x41 m42
            refine J_aload_n (pc := 160) dX10_odds_160 rfl rfl rfl ?_
            refine J_iload (pc := 161) dX10_odds_161 rfl ?_
            refine J_i2l (pc := 163) dX10_odds_163 ?_
            refine J_iload (pc := 164) dX10_odds_164 rfl ?_
            refine J_i2l (pc := 166) dX10_odds_166 ?_
            refine T_callVU (pc := 167) (As := [.long (iL (w32 x41)), .long (iL (w32 x40))]) (k := 67) (st := []) ok_yX10_tellOdds lm_X10_289 dX10_odds_167 (by decide) rfl rfl (by decide) (Nat.le_of_ble_eq_true rfl) (m_X10_tellOdds m42 (w32 x41) (w32 x40)) (fun _u m43 em43 => ?_)
            refine J_iconst (pc := 170) dX10_odds_170 ?_
            exact T_retI (pc := 171) rfl dX10_odds_171
        · refine J_bipush (pc := 41) dX10_odds_41 (by decide) (by decide) ?_
          exact T_retI (pc := 43) rfl dX10_odds_43
      · refine J_iconst (pc := 32) dX10_odds_32 ?_
        exact T_retI (pc := 33) rfl dX10_odds_33
def f_X10_lots_L59 (p0 : Int) : Nat → Int → Int → Int → Mem → Option (Int × Mem)
  | 0, _, _, _, _ => none
  | u + 1, i3, i5, i6, mu59 => if w32 i6 < w32 p0 then (ckl 2147483647 (vl (yrem (i3 * 48271) 2147483647) fun x11 => bd (f_X10_remember mu59) fun _u m12 => ckl 32 (ckl (w32 (zshl 1 (m12 67 0))) (bd (f_X10_goHour m12 (yrem (ydiv x11 32) (w32 (zshl 1 (m12 67 0))))) fun r14 m13 => vl (i5 + r14) fun x15 => f_X10_lots_L59 p0 u x11 x15 (i6 + 1) m13)))) else (some (i5, mu59))
set_option maxRecDepth 40000 in
theorem j_X10_lots_L59 {l : Launch} {G : qG} {p0 : Int} : ∀ (u : Nat) (i3 : Int) (i5 : Int) (i6 : Int) (mu59 : Mem), qJ l G yX10_lots cX10_lots 8 (some .int) 5 59 [some (.ref 67), some (.int (iI p0)), none, some (.long (iL i3)), none, some (.int (iI i5)), some (.int (iI i6)), none] [] (lay mu59) (lf eI (f_X10_lots_L59 p0 u i3 i5 i6 mu59)) := by
  intro u
  induction u with
  | zero => intro _ _ _ mu59; exact T_none
  | succ u ih =>
    intro i3 i5 i6 mu59
    rw [f_X10_lots_L59]
    refine J_iload (pc := 59) dX10_lots_59 rfl ?_
    refine J_iload_n (pc := 61) dX10_lots_61 rfl rfl ?_
    refine T_icmp_ge (pc := 62) (tgt := 112) dX10_lots_62 (by decide) (fun h10 => ?_) (fun h10 => ?_)
    · refine J_iload (pc := 112) dX10_lots_112 rfl ?_
      exact T_retI (pc := 114) rfl dX10_lots_114
    · refine J_lload_n (pc := 65) dX10_lots_65 rfl rfl ?_
      refine J_ldc2 (pc := 66) (z := 48271) dX10_lots_66 lk_X10_297 (by decide) ?_
      refine J_lmul (pc := 69) dX10_lots_69 ?_
      refine J_ldc2 (pc := 70) (z := 2147483647) dX10_lots_70 lk_X10_299 (by decide) ?_
      refine T_lrem (pc := 73) dX10_lots_73 ?_
      refine T_vlL (pc := 74) (fun x11 ex11 => ?_)
      refine J_lstore_n (pc := 74) (L' := [some (.ref 67), some (.int (iI p0)), none, some (.long (iL x11)), none, some (.int (iI i5)), some (.int (iI i6)), none]) dX10_lots_74 rfl (by decide) rfl rfl ?_
      refine J_aload_n (pc := 75) dX10_lots_75 rfl rfl rfl ?_
      refine T_callVU (pc := 76) (As := []) (k := 67) (st := []) ok_yX10_remember lm_X10_221 dX10_lots_76 (by decide) rfl rfl (by decide) (Nat.le_of_ble_eq_true rfl) (m_X10_remember mu59) (fun _u m12 em12 => ?_)
      refine J_aload_n (pc := 79) dX10_lots_79 rfl rfl rfl ?_
      refine J_lload_n (pc := 80) dX10_lots_80 rfl rfl ?_
      refine J_ldc2 (pc := 81) (z := 32) dX10_lots_81 lk_X10_301 (by decide) ?_
      refine T_ldiv (pc := 84) dX10_lots_84 ?_
      refine J_iconst (pc := 85) dX10_lots_85 ?_
      refine J_aload_n (pc := 86) dX10_lots_86 rfl rfl rfl ?_
      refine tg_X10_104 (pc := 87) rfl dX10_lots_87 ?_
      refine J_ishl (pc := 90) dX10_lots_90 ?_
      refine J_i2l (pc := 91) dX10_lots_91 ?_
      refine T_lrem (pc := 92) dX10_lots_92 ?_
      refine J_l2i (pc := 93) dX10_lots_93 ?_
      refine T_callVI (pc := 94) (As := [.int (iI (yrem (ydiv x11 32) (w32 (zshl 1 (m12 67 0)))))]) (k := 67) (st := []) ok_yX10_goHour lm_X10_224 dX10_lots_94 (by decide) rfl rfl (by decide) (Nat.le_of_ble_eq_true rfl) (m_X10_goHour m12 (yrem (ydiv x11 32) (w32 (zshl 1 (m12 67 0))))) (fun r14 m13 em13 => ?_)
      refine J_istore (pc := 97) (L' := [some (.ref 67), some (.int (iI p0)), none, some (.long (iL x11)), none, some (.int (iI i5)), some (.int (iI i6)), some (.int (iI r14))]) dX10_lots_97 (by decide) rfl rfl ?_
      refine J_iload (pc := 99) dX10_lots_99 rfl ?_
      refine J_iload (pc := 101) dX10_lots_101 rfl ?_
      refine J_iadd (pc := 103) dX10_lots_103 ?_
      refine T_vlI (pc := 104) (fun x15 ex15 => ?_)
      refine J_istore (pc := 104) (L' := [some (.ref 67), some (.int (iI p0)), none, some (.long (iL x11)), none, some (.int (iI x15)), some (.int (iI i6)), some (.int (iI r14))]) dX10_lots_104 (by decide) rfl rfl ?_
      refine J_iinc (pc := 106) (L' := [some (.ref 67), some (.int (iI p0)), none, some (.long (iL x11)), none, some (.int (iI x15)), some (.int (iI (i6 + 1))), some (.int (iI r14))]) dX10_lots_106 rfl (by decide) rfl rfl ?_
      refine J_goto (pc := 109) (tgt := 59) dX10_lots_109 (by decide) ?_
      refine J_dropf (pc := 59) (L' := [some (.ref 67), some (.int (iI p0)), none, some (.long (iL x11)), none, some (.int (iI x15)), some (.int (iI (i6 + 1))), none]) [true, true, false, true, false, true, true, false] rfl ?_
      exact ih x11 x15 (i6 + 1) m13
def f_X10_lots (m0 : Mem) (p0 : Int) (p1 : Int) : Option (Int × Mem) := bd (f_X10_in m0 (w32 p0) 1 20) fun r2 m1 => if w32 r2 = 0 then (some ((-1), m1)) else (bd (f_X10_in m1 (w32 p1) 1 2147483646) fun r5 m4 => if w32 r5 = 0 then (some ((-1), m4)) else (if w32 (m4 67 0) = 0 then (some ((-4), m4)) else (if w32 60 < w32 ((m4 67 8) + p0) then (some ((-2), m4)) else (vl (w32 p1) fun x9 => f_X10_lots_L59 p0 100000 x9 0 0 m4))))
set_option maxRecDepth 40000 in
theorem m_X10_lots {l : Launch} {G : qG} (m0 : Mem) (p0 : Int) (p1 : Int) : qM l G 5 yX10_lots cX10_lots 8 (some .int) [.ref 67, .int (iI p0), .int (iI p1)] (lay m0) (lf eI (f_X10_lots m0 p0 p1)) := by
  refine qM_of (L := [some (.ref 67), some (.int (iI p0)), some (.int (iI p1)), none, none, none, none, none]) (by decide +kernel) (Nat.le_of_ble_eq_true rfl) rfl ?_
  unfold f_X10_lots
  refine J_iload_n (pc := 0) dX10_lots_0 rfl rfl ?_
  refine J_i2l (pc := 1) dX10_lots_1 ?_
  refine J_lconst (pc := 2) (z := 1) dX10_lots_2 (by decide) ?_
  refine J_ldc2 (pc := 3) (z := 20) dX10_lots_3 lk_X10_293 (by decide) ?_
  refine T_callSI (pc := 6) (As := [.long (iL (w32 p0)), .long (iL 1), .long (iL 20)]) (st := []) ok_yX10_in lm_X10_98 dX10_lots_6 (by decide) (Nat.le_of_ble_eq_true rfl) (m_X10_in m0 (w32 p0) 1 20) (fun r2 m1 em1 => ?_)
  refine T_if_eq (pc := 9) (tgt := 24) dX10_lots_9 (by decide) (fun h3 => ?_) (fun h3 => ?_)
  · refine J_iconst (pc := 24) dX10_lots_24 ?_
    exact T_retI (pc := 25) rfl dX10_lots_25
  · refine J_iload_n (pc := 12) dX10_lots_12 rfl rfl ?_
    refine J_i2l (pc := 13) dX10_lots_13 ?_
    refine J_lconst (pc := 14) (z := 1) dX10_lots_14 (by decide) ?_
    refine J_ldc2 (pc := 15) (z := 2147483646) dX10_lots_15 lk_X10_295 (by decide) ?_
    refine T_callSI (pc := 18) (As := [.long (iL (w32 p1)), .long (iL 1), .long (iL 2147483646)]) (st := []) ok_yX10_in lm_X10_98 dX10_lots_18 (by decide) (Nat.le_of_ble_eq_true rfl) (m_X10_in m1 (w32 p1) 1 2147483646) (fun r5 m4 em4 => ?_)
    refine T_if_ne (pc := 21) (tgt := 26) dX10_lots_21 (by decide) (fun h6 => ?_) (fun h6 => ?_)
    · refine J_aload_n (pc := 26) dX10_lots_26 rfl rfl rfl ?_
      refine tg_X10_104 (pc := 27) rfl dX10_lots_27 ?_
      refine T_if_ne (pc := 30) (tgt := 36) dX10_lots_30 (by decide) (fun h7 => ?_) (fun h7 => ?_)
      · refine J_aload_n (pc := 36) dX10_lots_36 rfl rfl rfl ?_
        refine tg_X10_156 (pc := 37) rfl dX10_lots_37 ?_
        refine J_iload_n (pc := 40) dX10_lots_40 rfl rfl ?_
        refine J_iadd (pc := 41) dX10_lots_41 ?_
        refine J_bipush (pc := 42) dX10_lots_42 (by decide) (by decide) ?_
        refine T_icmp_le (pc := 44) (tgt := 50) dX10_lots_44 (by decide) (fun h8 => ?_) (fun h8 => ?_)
        · refine J_iload_n (pc := 50) dX10_lots_50 rfl rfl ?_
          refine J_i2l (pc := 51) dX10_lots_51 ?_
          refine T_vlL (pc := 52) (fun x9 ex9 => ?_)
          refine J_lstore_n (pc := 52) (L' := [some (.ref 67), some (.int (iI p0)), some (.int (iI p1)), some (.long (iL x9)), none, none, none, none]) dX10_lots_52 rfl (by decide) rfl rfl ?_
          refine J_iconst (pc := 53) dX10_lots_53 ?_
          refine J_istore (pc := 54) (L' := [some (.ref 67), some (.int (iI p0)), some (.int (iI p1)), some (.long (iL x9)), none, some (.int (iI 0)), none, none]) dX10_lots_54 (by decide) rfl rfl ?_
          refine J_iconst (pc := 56) dX10_lots_56 ?_
          refine J_istore (pc := 57) (L' := [some (.ref 67), some (.int (iI p0)), some (.int (iI p1)), some (.long (iL x9)), none, some (.int (iI 0)), some (.int (iI 0)), none]) dX10_lots_57 (by decide) rfl rfl ?_
          refine J_dropf (pc := 59) (L' := [some (.ref 67), some (.int (iI p0)), none, some (.long (iL x9)), none, some (.int (iI 0)), some (.int (iI 0)), none]) [true, true, false, true, false, true, true, false] rfl ?_
          refine j_X10_lots_L59 100000 x9 0 0 m4
        · refine J_bipush (pc := 47) dX10_lots_47 (by decide) (by decide) ?_
          exact T_retI (pc := 49) rfl dX10_lots_49
      · refine J_bipush (pc := 33) dX10_lots_33 (by decide) (by decide) ?_
        exact T_retI (pc := 35) rfl dX10_lots_35
    · refine J_iconst (pc := 24) dX10_lots_24 ?_
      exact T_retI (pc := 25) rfl dX10_lots_25
def f_X10_asked (m0 : Mem) : Option (Int × Mem) := some (m0 67 10, m0)
set_option maxRecDepth 40000 in
theorem m_X10_asked {l : Launch} {G : qG} (m0 : Mem) : qM l G 1 yX10_asked cX10_asked 1 (some .int) [.ref 67] (lay m0) (lf eI (f_X10_asked m0)) := by
  refine qM_of (L := [some (.ref 67)]) (by decide +kernel) (Nat.le_of_ble_eq_true rfl) rfl ?_
  unfold f_X10_asked
  refine J_aload_n (pc := 0) dX10_asked_0 rfl rfl rfl ?_
  refine tg_X10_118 (pc := 1) rfl dX10_asked_1 ?_
  exact T_retI (pc := 4) rfl dX10_asked_4
def f_X10_upper (m0 : Mem) : Option (Int × Mem) := some (m0 67 11, m0)
set_option maxRecDepth 40000 in
theorem m_X10_upper {l : Launch} {G : qG} (m0 : Mem) : qM l G 1 yX10_upper cX10_upper 1 (some .long) [.ref 67] (lay m0) (lf eL (f_X10_upper m0)) := by
  refine qM_of (L := [some (.ref 67)]) (by decide +kernel) (Nat.le_of_ble_eq_true rfl) rfl ?_
  unfold f_X10_upper
  refine J_aload_n (pc := 0) dX10_upper_0 rfl rfl rfl ?_
  refine tg_X10_284 (pc := 1) rfl dX10_upper_1 ?_
  exact T_retL (pc := 4) rfl dX10_upper_4
def f_X10_lower (m0 : Mem) : Option (Int × Mem) := some (m0 67 12, m0)
set_option maxRecDepth 40000 in
theorem m_X10_lower {l : Launch} {G : qG} (m0 : Mem) : qM l G 1 yX10_lower cX10_lower 1 (some .long) [.ref 67] (lay m0) (lf eL (f_X10_lower m0)) := by
  refine qM_of (L := [some (.ref 67)]) (by decide +kernel) (Nat.le_of_ble_eq_true rfl) rfl ?_
  unfold f_X10_lower
  refine J_aload_n (pc := 0) dX10_lower_0 rfl rfl rfl ?_
  refine tg_X10_31 (pc := 1) rfl dX10_lower_1 ?_
  exact T_retL (pc := 4) rfl dX10_lower_4
def f_X10_pullers_L4 : Nat → Int → Int → Mem → Option (Int × Mem)
  | 0, _, _, _ => none
  | u + 1, i1, i2, mu4 => if w32 i2 < w32 (mu4 67 0) then (bd (f_X10_canPull mu4 i2) fun r3 m2 => vl (if w32 r3 = 0 then 0 else 1) fun v4 => vl (i1 + v4) fun x6 => f_X10_pullers_L4 u x6 (i2 + 1) m2) else (some (i1, mu4))
set_option maxRecDepth 40000 in
theorem j_X10_pullers_L4 {l : Launch} {G : qG} : ∀ (u : Nat) (i1 : Int) (i2 : Int) (mu4 : Mem), qJ l G yX10_pullers cX10_pullers 3 (some .int) 3 4 [some (.ref 67), some (.int (iI i1)), some (.int (iI i2))] [] (lay mu4) (lf eI (f_X10_pullers_L4 u i1 i2 mu4)) := by
  intro u
  induction u with
  | zero => intro _ _ mu4; exact T_none
  | succ u ih =>
    intro i1 i2 mu4
    rw [f_X10_pullers_L4]
    refine J_iload_n (pc := 4) dX10_pullers_4 rfl rfl ?_
    refine J_aload_n (pc := 5) dX10_pullers_5 rfl rfl rfl ?_
    refine tg_X10_104 (pc := 6) rfl dX10_pullers_6 ?_
    refine T_icmp_ge (pc := 9) (tgt := 34) dX10_pullers_9 (by decide) (fun h1 => ?_) (fun h1 => ?_)
    · refine J_iload_n (pc := 34) dX10_pullers_34 rfl rfl ?_
      exact T_retI (pc := 35) rfl dX10_pullers_35
    · refine J_iload_n (pc := 12) dX10_pullers_12 rfl rfl ?_
      refine J_aload_n (pc := 13) dX10_pullers_13 rfl rfl rfl ?_
      refine J_iload_n (pc := 14) dX10_pullers_14 rfl rfl ?_
      refine T_callVI (pc := 15) (As := [.int (iI i2)]) (k := 67) (st := [.int (iI i1)]) ok_yX10_canPull lm_X10_182 dX10_pullers_15 (by decide) rfl rfl (by decide) (Nat.le_of_ble_eq_true rfl) (m_X10_canPull mu4 i2) (fun r3 m2 em2 => ?_)
      refine T_vl (fun v4 ev4 => ?_)
      refine T_dia (j := 26) (v := v4) (LT := [some (.ref 67), some (.int (iI i1)), some (.int (iI i2))]) (sT := [.int (iI i1)]) ?_ (fun hj5 => ?_)
      · refine J_iadd (pc := 26) dX10_pullers_26 ?_
        refine T_vlI (pc := 27) (fun x6 ex6 => ?_)
        refine J_istore_n (pc := 27) (L' := [some (.ref 67), some (.int (iI x6)), some (.int (iI i2))]) dX10_pullers_27 rfl (by decide) rfl rfl ?_
        refine J_iinc (pc := 28) (L' := [some (.ref 67), some (.int (iI x6)), some (.int (iI (i2 + 1)))]) dX10_pullers_28 rfl (by decide) rfl rfl ?_
        refine J_goto (pc := 31) (tgt := 4) dX10_pullers_31 (by decide) ?_
        exact ih x6 (i2 + 1) m2
      · refine T_if_eq_same (pc := 18) (tgt := 25) dX10_pullers_18 (by decide) (fun h7 => ?_) (fun h7 => ?_)
        · refine J_iconst (pc := 25) dX10_pullers_25 ?_
          exact T_top (by rw [ev4, if_pos h7]) hj5
        · refine J_iconst (pc := 21) dX10_pullers_21 ?_
          refine J_goto (pc := 22) (tgt := 26) dX10_pullers_22 (by decide) ?_
          exact T_top (by rw [ev4, if_neg h7]) hj5
def f_X10_pullers (m0 : Mem) : Option (Int × Mem) := f_X10_pullers_L4 100000 0 0 m0
set_option maxRecDepth 40000 in
theorem m_X10_pullers {l : Launch} {G : qG} (m0 : Mem) : qM l G 3 yX10_pullers cX10_pullers 3 (some .int) [.ref 67] (lay m0) (lf eI (f_X10_pullers m0)) := by
  refine qM_of (L := [some (.ref 67), none, none]) (by decide +kernel) (Nat.le_of_ble_eq_true rfl) rfl ?_
  unfold f_X10_pullers
  refine J_iconst (pc := 0) dX10_pullers_0 ?_
  refine J_istore_n (pc := 1) (L' := [some (.ref 67), some (.int (iI 0)), none]) dX10_pullers_1 rfl (by decide) rfl rfl ?_
  refine J_iconst (pc := 2) dX10_pullers_2 ?_
  refine J_istore_n (pc := 3) (L' := [some (.ref 67), some (.int (iI 0)), some (.int (iI 0))]) dX10_pullers_3 rfl (by decide) rfl rfl ?_
  refine j_X10_pullers_L4 100000 0 0 m0
def f_X10_strongOnes_L4 : Nat → Int → Int → Mem → Option (Int × Mem)
  | 0, _, _, _ => none
  | u + 1, i1, i2, mu4 => if w32 i2 < w32 (mu4 67 0) then (bd (f_X10_isOf mu4 i2 2) fun r3 m2 => vl (if w32 r3 = 0 then 0 else 1) fun v4 => vl (i1 + v4) fun x6 => f_X10_strongOnes_L4 u x6 (i2 + 1) m2) else (some (i1, mu4))
set_option maxRecDepth 40000 in
theorem j_X10_strongOnes_L4 {l : Launch} {G : qG} : ∀ (u : Nat) (i1 : Int) (i2 : Int) (mu4 : Mem), qJ l G yX10_strongOnes cX10_strongOnes 3 (some .int) 2 4 [some (.ref 67), some (.int (iI i1)), some (.int (iI i2))] [] (lay mu4) (lf eI (f_X10_strongOnes_L4 u i1 i2 mu4)) := by
  intro u
  induction u with
  | zero => intro _ _ mu4; exact T_none
  | succ u ih =>
    intro i1 i2 mu4
    rw [f_X10_strongOnes_L4]
    refine J_iload_n (pc := 4) dX10_strongOnes_4 rfl rfl ?_
    refine J_aload_n (pc := 5) dX10_strongOnes_5 rfl rfl rfl ?_
    refine tg_X10_104 (pc := 6) rfl dX10_strongOnes_6 ?_
    refine T_icmp_ge (pc := 9) (tgt := 35) dX10_strongOnes_9 (by decide) (fun h1 => ?_) (fun h1 => ?_)
    · refine J_iload_n (pc := 35) dX10_strongOnes_35 rfl rfl ?_
      exact T_retI (pc := 36) rfl dX10_strongOnes_36
    · refine J_iload_n (pc := 12) dX10_strongOnes_12 rfl rfl ?_
      refine J_aload_n (pc := 13) dX10_strongOnes_13 rfl rfl rfl ?_
      refine J_iload_n (pc := 14) dX10_strongOnes_14 rfl rfl ?_
      refine J_iconst (pc := 15) dX10_strongOnes_15 ?_
      refine T_callVI (pc := 16) (As := [.int (iI i2), .int (iI 2)]) (k := 67) (st := [.int (iI i1)]) ok_yX10_isOf lm_X10_159 dX10_strongOnes_16 (by decide) rfl rfl (by decide) (Nat.le_of_ble_eq_true rfl) (m_X10_isOf mu4 i2 2) (fun r3 m2 em2 => ?_)
      refine T_vl (fun v4 ev4 => ?_)
      refine T_dia (j := 27) (v := v4) (LT := [some (.ref 67), some (.int (iI i1)), some (.int (iI i2))]) (sT := [.int (iI i1)]) ?_ (fun hj5 => ?_)
      · refine J_iadd (pc := 27) dX10_strongOnes_27 ?_
        refine T_vlI (pc := 28) (fun x6 ex6 => ?_)
        refine J_istore_n (pc := 28) (L' := [some (.ref 67), some (.int (iI x6)), some (.int (iI i2))]) dX10_strongOnes_28 rfl (by decide) rfl rfl ?_
        refine J_iinc (pc := 29) (L' := [some (.ref 67), some (.int (iI x6)), some (.int (iI (i2 + 1)))]) dX10_strongOnes_29 rfl (by decide) rfl rfl ?_
        refine J_goto (pc := 32) (tgt := 4) dX10_strongOnes_32 (by decide) ?_
        exact ih x6 (i2 + 1) m2
      · refine T_if_eq_same (pc := 19) (tgt := 26) dX10_strongOnes_19 (by decide) (fun h7 => ?_) (fun h7 => ?_)
        · refine J_iconst (pc := 26) dX10_strongOnes_26 ?_
          exact T_top (by rw [ev4, if_pos h7]) hj5
        · refine J_iconst (pc := 22) dX10_strongOnes_22 ?_
          refine J_goto (pc := 23) (tgt := 27) dX10_strongOnes_23 (by decide) ?_
          exact T_top (by rw [ev4, if_neg h7]) hj5
def f_X10_strongOnes (m0 : Mem) : Option (Int × Mem) := f_X10_strongOnes_L4 100000 0 0 m0
set_option maxRecDepth 40000 in
theorem m_X10_strongOnes {l : Launch} {G : qG} (m0 : Mem) : qM l G 2 yX10_strongOnes cX10_strongOnes 3 (some .int) [.ref 67] (lay m0) (lf eI (f_X10_strongOnes m0)) := by
  refine qM_of (L := [some (.ref 67), none, none]) (by decide +kernel) (Nat.le_of_ble_eq_true rfl) rfl ?_
  unfold f_X10_strongOnes
  refine J_iconst (pc := 0) dX10_strongOnes_0 ?_
  refine J_istore_n (pc := 1) (L' := [some (.ref 67), some (.int (iI 0)), none]) dX10_strongOnes_1 rfl (by decide) rfl rfl ?_
  refine J_iconst (pc := 2) dX10_strongOnes_2 ?_
  refine J_istore_n (pc := 3) (L' := [some (.ref 67), some (.int (iI 0)), some (.int (iI 0))]) dX10_strongOnes_3 rfl (by decide) rfl rfl ?_
  refine j_X10_strongOnes_L4 100000 0 0 m0
def f_X10_there_L4 (a0 : Nat) (n0 : Nat) : Nat → Int → Int → Mem → Option (Int × Mem)
  | 0, _, _, _ => none
  | u + 1, i1, i2, mu4 => if w32 i2 < w32 (n0 : Int) then (ck i2 n0 (vl (if w32 (mu4 a0 (w32 i2).toNat) < 0 then 0 else 1) fun v3 => vl (i1 + v3) fun x5 => f_X10_there_L4 a0 n0 u x5 (i2 + 1) mu4)) else (some (i1, mu4))
set_option maxRecDepth 40000 in
theorem j_X10_there_L4 {l : Launch} {G : qG} {a0 : Nat} {n0 : Nat} (ha0 : a0 < qN) (hs0 : shp a0 = .inr (.inl (0, n0))) : ∀ (u : Nat) (i1 : Int) (i2 : Int) (mu4 : Mem), qJ l G yX10_there cX10_there 3 (some .int) 1 4 [some (.ref a0), some (.int (iI i1)), some (.int (iI i2))] [] (lay mu4) (lf eI (f_X10_there_L4 a0 n0 u i1 i2 mu4)) := by
  intro u
  induction u with
  | zero => intro _ _ mu4; exact T_none
  | succ u ih =>
    intro i1 i2 mu4
    rw [f_X10_there_L4]
    refine J_iload_n (pc := 4) dX10_there_4 rfl rfl ?_
    refine J_aload_n (pc := 5) dX10_there_5 rfl rfl rfl ?_
    refine T_alen (pc := 6) ha0 hs0 rfl dX10_there_6 ?_
    refine T_icmp_ge (pc := 7) (tgt := 30) dX10_there_7 (by decide) (fun h1 => ?_) (fun h1 => ?_)
    · refine J_iload_n (pc := 30) dX10_there_30 rfl rfl ?_
      exact T_retI (pc := 31) rfl dX10_there_31
    · refine J_iload_n (pc := 10) dX10_there_10 rfl rfl ?_
      refine J_aload_n (pc := 11) dX10_there_11 rfl rfl rfl ?_
      refine J_iload_n (pc := 12) dX10_there_12 rfl rfl ?_
      refine T_iaload (pc := 13) ha0 hs0 dX10_there_13 (fun h2 => ?_)
      refine T_vl (fun v3 ev3 => ?_)
      refine T_dia (j := 22) (v := v3) (LT := [some (.ref a0), some (.int (iI i1)), some (.int (iI i2))]) (sT := [.int (iI i1)]) ?_ (fun hj4 => ?_)
      · refine J_iadd (pc := 22) dX10_there_22 ?_
        refine T_vlI (pc := 23) (fun x5 ex5 => ?_)
        refine J_istore_n (pc := 23) (L' := [some (.ref a0), some (.int (iI x5)), some (.int (iI i2))]) dX10_there_23 rfl (by decide) rfl rfl ?_
        refine J_iinc (pc := 24) (L' := [some (.ref a0), some (.int (iI x5)), some (.int (iI (i2 + 1)))]) dX10_there_24 rfl (by decide) rfl rfl ?_
        refine J_goto (pc := 27) (tgt := 4) dX10_there_27 (by decide) ?_
        exact ih x5 (i2 + 1) mu4
      · refine T_if_ge_same (pc := 14) (tgt := 21) dX10_there_14 (by decide) (fun h6 => ?_) (fun h6 => ?_)
        · refine J_iconst (pc := 21) dX10_there_21 ?_
          exact T_top (by rw [ev3, if_neg h6]) hj4
        · refine J_iconst (pc := 17) dX10_there_17 ?_
          refine J_goto (pc := 18) (tgt := 22) dX10_there_18 (by decide) ?_
          exact T_top (by rw [ev3, if_pos h6]) hj4
def f_X10_there (m0 : Mem) (a0 : Nat) (n0 : Nat) : Option (Int × Mem) := f_X10_there_L4 a0 n0 100000 0 0 m0
set_option maxRecDepth 40000 in
theorem m_X10_there {l : Launch} {G : qG} (m0 : Mem) (a0 : Nat) (n0 : Nat) (ha0 : a0 < qN) (hs0 : shp a0 = .inr (.inl (0, n0))) : qM l G 1 yX10_there cX10_there 3 (some .int) [.ref a0] (lay m0) (lf eI (f_X10_there m0 a0 n0)) := by
  refine qM_of (L := [some (.ref a0), none, none]) (by decide +kernel) (Nat.le_of_ble_eq_true rfl) rfl ?_
  unfold f_X10_there
  refine J_iconst (pc := 0) dX10_there_0 ?_
  refine J_istore_n (pc := 1) (L' := [some (.ref a0), some (.int (iI 0)), none]) dX10_there_1 rfl (by decide) rfl rfl ?_
  refine J_iconst (pc := 2) dX10_there_2 ?_
  refine J_istore_n (pc := 3) (L' := [some (.ref a0), some (.int (iI 0)), some (.int (iI 0))]) dX10_there_3 rfl (by decide) rfl rfl ?_
  refine j_X10_there_L4 ha0 hs0 100000 0 0 m0
def f_X10_count (m0 : Mem) (p0 : Int) : Option (Int × Mem) := if w32 p0 = 0 then (some (m0 67 0, m0)) else (if w32 p0 = 1 then (some (m0 67 1, m0)) else (if w32 p0 = 2 then (some (m0 67 8, m0)) else (if w32 p0 = 3 then (bd (f_X10_pullers m0) fun r6 m5 => some (r6, m5)) else (if w32 p0 = 4 then (bd (f_X10_isDown m0) fun r9 m8 => vl (if w32 r9 = 0 then 0 else 1) fun v10 => some (v10, m8)) else (if w32 p0 = 5 then (bd (f_X10_strongOnes m0) fun r15 m14 => some (r15, m14)) else (if w32 p0 = 6 then (bd (f_X10_there m0 76 6) fun r18 m17 => some (r18, m17)) else (if w32 p0 = 7 then (bd (f_X10_there m0 78 4) fun r21 m20 => some (r21, m20)) else (if w32 p0 = 8 then (bd (f_X10_there m0 80 3) fun r24 m23 => some (r24, m23)) else (some ((-1), m0))))))))))
set_option maxRecDepth 40000 in
theorem m_X10_count {l : Launch} {G : qG} (m0 : Mem) (p0 : Int) : qM l G 4 yX10_count cX10_count 2 (some .int) [.ref 67, .int (iI p0)] (lay m0) (lf eI (f_X10_count m0 p0)) := by
  refine qM_of (L := [some (.ref 67), some (.int (iI p0))]) (by decide +kernel) (Nat.le_of_ble_eq_true rfl) rfl ?_
  unfold f_X10_count
  refine J_iload_n (pc := 0) dX10_count_0 rfl rfl ?_
  by_cases h1 : w32 p0 = 0
  · rw [if_pos h1]
    refine J_swIn (pc := 1) (j := 0) (tgt := 52) dX10_count_1 h1 (by decide) (by decide) rfl (by decide) ?_
    refine J_aload_n (pc := 52) dX10_count_52 rfl rfl rfl ?_
    refine tg_X10_104 (pc := 53) rfl dX10_count_53 ?_
    exact T_retI (pc := 56) rfl dX10_count_56
  rw [if_neg h1]
  by_cases h2 : w32 p0 = 1
  · rw [if_pos h2]
    refine J_swIn (pc := 1) (j := 1) (tgt := 57) dX10_count_1 h2 (by decide) (by decide) rfl (by decide) ?_
    refine J_aload_n (pc := 57) dX10_count_57 rfl rfl rfl ?_
    refine tg_X10_107 (pc := 58) rfl dX10_count_58 ?_
    exact T_retI (pc := 61) rfl dX10_count_61
  rw [if_neg h2]
  by_cases h3 : w32 p0 = 2
  · rw [if_pos h3]
    refine J_swIn (pc := 1) (j := 2) (tgt := 62) dX10_count_1 h3 (by decide) (by decide) rfl (by decide) ?_
    refine J_aload_n (pc := 62) dX10_count_62 rfl rfl rfl ?_
    refine tg_X10_156 (pc := 63) rfl dX10_count_63 ?_
    exact T_retI (pc := 66) rfl dX10_count_66
  rw [if_neg h3]
  by_cases h4 : w32 p0 = 3
  · rw [if_pos h4]
    refine J_swIn (pc := 1) (j := 3) (tgt := 67) dX10_count_1 h4 (by decide) (by decide) rfl (by decide) ?_
    refine J_aload_n (pc := 67) dX10_count_67 rfl rfl rfl ?_
    refine T_callVI (pc := 68) (As := []) (k := 67) (st := []) ok_yX10_pullers lm_X10_303 dX10_count_68 (by decide) rfl rfl (by decide) (Nat.le_of_ble_eq_true rfl) (m_X10_pullers m0) (fun r6 m5 em5 => ?_)
    exact T_retI (pc := 71) rfl dX10_count_71
  rw [if_neg h4]
  by_cases h7 : w32 p0 = 4
  · rw [if_pos h7]
    refine J_swIn (pc := 1) (j := 4) (tgt := 72) dX10_count_1 h7 (by decide) (by decide) rfl (by decide) ?_
    refine J_aload_n (pc := 72) dX10_count_72 rfl rfl rfl ?_
    refine T_callVI (pc := 73) (As := []) (k := 67) (st := []) ok_yX10_isDown lm_X10_163 dX10_count_73 (by decide) rfl rfl (by decide) (Nat.le_of_ble_eq_true rfl) (m_X10_isDown m0) (fun r9 m8 em8 => ?_)
    refine T_vl (fun v10 ev10 => ?_)
    refine T_dia (j := 84) (v := v10) (LT := [some (.ref 67), some (.int (iI p0))]) (sT := []) ?_ (fun hj11 => ?_)
    · exact T_retI (pc := 84) rfl dX10_count_84
    · refine T_if_eq_same (pc := 76) (tgt := 83) dX10_count_76 (by decide) (fun h12 => ?_) (fun h12 => ?_)
      · refine J_iconst (pc := 83) dX10_count_83 ?_
        exact T_top (by rw [ev10, if_pos h12]) hj11
      · refine J_iconst (pc := 79) dX10_count_79 ?_
        refine J_goto (pc := 80) (tgt := 84) dX10_count_80 (by decide) ?_
        exact T_top (by rw [ev10, if_neg h12]) hj11
  rw [if_neg h7]
  by_cases h13 : w32 p0 = 5
  · rw [if_pos h13]
    refine J_swIn (pc := 1) (j := 5) (tgt := 85) dX10_count_1 h13 (by decide) (by decide) rfl (by decide) ?_
    refine J_aload_n (pc := 85) dX10_count_85 rfl rfl rfl ?_
    refine T_callVI (pc := 86) (As := []) (k := 67) (st := []) ok_yX10_strongOnes lm_X10_306 dX10_count_86 (by decide) rfl rfl (by decide) (Nat.le_of_ble_eq_true rfl) (m_X10_strongOnes m0) (fun r15 m14 em14 => ?_)
    exact T_retI (pc := 89) rfl dX10_count_89
  rw [if_neg h13]
  by_cases h16 : w32 p0 = 6
  · rw [if_pos h16]
    refine J_swIn (pc := 1) (j := 6) (tgt := 90) dX10_count_1 h16 (by decide) (by decide) rfl (by decide) ?_
    refine J_aload_n (pc := 90) dX10_count_90 rfl rfl rfl ?_
    refine tg_X10_38 (pc := 91) rfl dX10_count_91 ?_
    refine T_callSI (pc := 94) (As := [.ref 76]) (st := []) ok_yX10_there lm_X10_309 dX10_count_94 (by decide) (Nat.le_of_ble_eq_true rfl) (m_X10_there m0 76 6 (by decide) rfl) (fun r18 m17 em17 => ?_)
    exact T_retI (pc := 97) rfl dX10_count_97
  rw [if_neg h16]
  by_cases h19 : w32 p0 = 7
  · rw [if_pos h19]
    refine J_swIn (pc := 1) (j := 7) (tgt := 98) dX10_count_1 h19 (by decide) (by decide) rfl (by decide) ?_
    refine J_aload_n (pc := 98) dX10_count_98 rfl rfl rfl ?_
    refine tg_X10_44 (pc := 99) rfl dX10_count_99 ?_
    refine T_callSI (pc := 102) (As := [.ref 78]) (st := []) ok_yX10_there lm_X10_309 dX10_count_102 (by decide) (Nat.le_of_ble_eq_true rfl) (m_X10_there m0 78 4 (by decide) rfl) (fun r21 m20 em20 => ?_)
    exact T_retI (pc := 105) rfl dX10_count_105
  rw [if_neg h19]
  by_cases h22 : w32 p0 = 8
  · rw [if_pos h22]
    refine J_swIn (pc := 1) (j := 8) (tgt := 106) dX10_count_1 h22 (by decide) (by decide) rfl (by decide) ?_
    refine J_aload_n (pc := 106) dX10_count_106 rfl rfl rfl ?_
    refine tg_X10_50 (pc := 107) rfl dX10_count_107 ?_
    refine T_callSI (pc := 110) (As := [.ref 80]) (st := []) ok_yX10_there lm_X10_309 dX10_count_110 (by decide) (Nat.le_of_ble_eq_true rfl) (m_X10_there m0 80 3 (by decide) rfl) (fun r24 m23 em23 => ?_)
    exact T_retI (pc := 113) rfl dX10_count_113
  rw [if_neg h22]
  refine J_swOut (pc := 1) (tgt := 114) dX10_count_1 (by omega) (by decide) ?_
  refine J_iconst (pc := 114) dX10_count_114 ?_
  exact T_retI (pc := 115) rfl dX10_count_115
def f_X10_finding (m0 : Mem) : Option (Int × Mem) := some (m0 67 13, m0)
set_option maxRecDepth 40000 in
theorem m_X10_finding {l : Launch} {G : qG} (m0 : Mem) : qM l G 1 yX10_finding cX10_finding 1 (some .int) [.ref 67] (lay m0) (lf eI (f_X10_finding m0)) := by
  refine qM_of (L := [some (.ref 67)]) (by decide +kernel) (Nat.le_of_ble_eq_true rfl) rfl ?_
  unfold f_X10_finding
  refine J_aload_n (pc := 0) dX10_finding_0 rfl rfl rfl ?_
  refine tg_X10_92 (pc := 1) rfl dX10_finding_1 ?_
  exact T_retI (pc := 4) rfl dX10_finding_4
def f_X10_findings (m0 : Mem) (p0 : Int) : Option (Int × Mem) := bd (f_X10_in m0 (w32 p0) 1 5) fun r2 m1 => if w32 r2 = 0 then (some ((-1), m1)) else (ck p0 6 (some (m1 75 (w32 p0).toNat, m1)))
set_option maxRecDepth 40000 in
theorem m_X10_findings {l : Launch} {G : qG} (m0 : Mem) (p0 : Int) : qM l G 2 yX10_findings cX10_findings 2 (some .int) [.ref 67, .int (iI p0)] (lay m0) (lf eI (f_X10_findings m0 p0)) := by
  refine qM_of (L := [some (.ref 67), some (.int (iI p0))]) (by decide +kernel) (Nat.le_of_ble_eq_true rfl) rfl ?_
  unfold f_X10_findings
  refine J_iload_n (pc := 0) dX10_findings_0 rfl rfl ?_
  refine J_i2l (pc := 1) dX10_findings_1 ?_
  refine J_lconst (pc := 2) (z := 1) dX10_findings_2 (by decide) ?_
  refine J_ldc2 (pc := 3) (z := 5) dX10_findings_3 lk_X10_96 (by decide) ?_
  refine T_callSI (pc := 6) (As := [.long (iL (w32 p0)), .long (iL 1), .long (iL 5)]) (st := []) ok_yX10_in lm_X10_98 dX10_findings_6 (by decide) (Nat.le_of_ble_eq_true rfl) (m_X10_in m0 (w32 p0) 1 5) (fun r2 m1 em1 => ?_)
  refine T_if_eq (pc := 9) (tgt := 21) dX10_findings_9 (by decide) (fun h3 => ?_) (fun h3 => ?_)
  · refine J_iconst (pc := 21) dX10_findings_21 ?_
    exact T_retI (pc := 22) rfl dX10_findings_22
  · refine J_aload_n (pc := 12) dX10_findings_12 rfl rfl rfl ?_
    refine tg_X10_35 (pc := 13) rfl dX10_findings_13 ?_
    refine J_iload_n (pc := 16) dX10_findings_16 rfl rfl ?_
    refine T_iaload (pc := 17) (by decide) rfl dX10_findings_17 (fun h4 => ?_)
    refine J_goto (pc := 18) (tgt := 22) dX10_findings_18 (by decide) ?_
    exact T_retI (pc := 22) rfl dX10_findings_22
def f_X10_digest_L6 (K : Int → Mem → Option (Int × Mem)) : Nat → Int → Int → Mem → Option (Int × Mem)
  | 0, _, _, _ => none
  | u + 1, i1, i3, mu6 => if w32 i3 < w32 9 then (bd (f_X10_count mu6 i3) fun r3 m2 => vl ((31 * i1) + (w32 r3)) fun x4 => f_X10_digest_L6 K u x4 (i3 + 1) m2) else (K i1 mu6)
set_option maxRecDepth 40000 in
theorem j_X10_digest_L6 {l : Launch} {G : qG} {K : Int → Mem → Option (Int × Mem)} (hK : ∀ (x1 : Int) (m : Mem), qJ l G yX10_digest cX10_digest 5 (some .long) 5 31 [some (.ref 67), some (.long (iL x1)), none, none, none] [] (lay m) (lf eL (K x1 m))) : ∀ (u : Nat) (i1 : Int) (i3 : Int) (mu6 : Mem), qJ l G yX10_digest cX10_digest 5 (some .long) 5 6 [some (.ref 67), some (.long (iL i1)), none, some (.int (iI i3)), none] [] (lay mu6) (lf eL (f_X10_digest_L6 K u i1 i3 mu6)) := by
  intro u
  induction u with
  | zero => intro _ _ mu6; exact T_none
  | succ u ih =>
    intro i1 i3 mu6
    rw [f_X10_digest_L6]
    refine J_iload_n (pc := 6) dX10_digest_6 rfl rfl ?_
    refine J_bipush (pc := 7) dX10_digest_7 (by decide) (by decide) ?_
    refine T_icmp_ge (pc := 9) (tgt := 31) dX10_digest_9 (by decide) (fun h1 => ?_) (fun h1 => ?_)
    · refine J_dropf (pc := 31) (L' := [some (.ref 67), some (.long (iL i1)), none, none, none]) [true, true, false, false, false] rfl ?_
      exact hK i1 mu6
    · refine J_ldc2 (pc := 12) (z := 31) dX10_digest_12 lk_X10_315 (by decide) ?_
      refine J_lload_n (pc := 15) dX10_digest_15 rfl rfl ?_
      refine J_lmul (pc := 16) dX10_digest_16 ?_
      refine J_aload_n (pc := 17) dX10_digest_17 rfl rfl rfl ?_
      refine J_iload_n (pc := 18) dX10_digest_18 rfl rfl ?_
      refine T_callVI (pc := 19) (As := [.int (iI i3)]) (k := 67) (st := [.long (iL (31 * i1))]) ok_yX10_count lm_X10_317 dX10_digest_19 (by decide) rfl rfl (by decide) (Nat.le_of_ble_eq_true rfl) (m_X10_count mu6 i3) (fun r3 m2 em2 => ?_)
      refine J_i2l (pc := 22) dX10_digest_22 ?_
      refine J_ladd (pc := 23) dX10_digest_23 ?_
      refine T_vlL (pc := 24) (fun x4 ex4 => ?_)
      refine J_lstore_n (pc := 24) (L' := [some (.ref 67), some (.long (iL x4)), none, some (.int (iI i3)), none]) dX10_digest_24 rfl (by decide) rfl rfl ?_
      refine J_iinc (pc := 25) (L' := [some (.ref 67), some (.long (iL x4)), none, some (.int (iI (i3 + 1))), none]) dX10_digest_25 rfl (by decide) rfl rfl ?_
      refine J_goto (pc := 28) (tgt := 6) dX10_digest_28 (by decide) ?_
      exact ih x4 (i3 + 1) m2
def f_X10_digest_L70 (K : Int → Mem → Option (Int × Mem)) (i3 : Int) : Nat → Int → Int → Mem → Option (Int × Mem)
  | 0, _, _, _ => none
  | u + 1, i1, i4, mu70 => if w32 i4 < w32 4 then (bd (f_X10_capeOf mu70 i3 i4) fun r13 m12 => vl ((31 * i1) + (w32 r13)) fun x14 => f_X10_digest_L70 K i3 u x14 (i4 + 1) m12) else (K i1 mu70)
set_option maxRecDepth 40000 in
theorem j_X10_digest_L70 {l : Launch} {G : qG} {K : Int → Mem → Option (Int × Mem)} {i3 : Int} (hK : ∀ (x1 : Int) (m : Mem), qJ l G yX10_digest cX10_digest 5 (some .long) 5 97 [some (.ref 67), some (.long (iL x1)), none, some (.int (iI i3)), none] [] (lay m) (lf eL (K x1 m))) : ∀ (u : Nat) (i1 : Int) (i4 : Int) (mu70 : Mem), qJ l G yX10_digest cX10_digest 5 (some .long) 5 70 [some (.ref 67), some (.long (iL i1)), none, some (.int (iI i3)), some (.int (iI i4))] [] (lay mu70) (lf eL (f_X10_digest_L70 K i3 u i1 i4 mu70)) := by
  intro u
  induction u with
  | zero => intro _ _ mu70; exact T_none
  | succ u ih =>
    intro i1 i4 mu70
    rw [f_X10_digest_L70]
    refine J_iload (pc := 70) dX10_digest_70 rfl ?_
    refine J_iconst (pc := 72) dX10_digest_72 ?_
    refine T_icmp_ge (pc := 73) (tgt := 97) dX10_digest_73 (by decide) (fun h11 => ?_) (fun h11 => ?_)
    · refine J_dropf (pc := 97) (L' := [some (.ref 67), some (.long (iL i1)), none, some (.int (iI i3)), none]) [true, true, false, true, false] rfl ?_
      exact hK i1 mu70
    · refine J_ldc2 (pc := 76) (z := 31) dX10_digest_76 lk_X10_315 (by decide) ?_
      refine J_lload_n (pc := 79) dX10_digest_79 rfl rfl ?_
      refine J_lmul (pc := 80) dX10_digest_80 ?_
      refine J_aload_n (pc := 81) dX10_digest_81 rfl rfl rfl ?_
      refine J_iload_n (pc := 82) dX10_digest_82 rfl rfl ?_
      refine J_iload (pc := 83) dX10_digest_83 rfl ?_
      refine T_callVI (pc := 85) (As := [.int (iI i3), .int (iI i4)]) (k := 67) (st := [.long (iL (31 * i1))]) ok_yX10_capeOf lm_X10_201 dX10_digest_85 (by decide) rfl rfl (by decide) (Nat.le_of_ble_eq_true rfl) (m_X10_capeOf mu70 i3 i4) (fun r13 m12 em12 => ?_)
      refine J_i2l (pc := 88) dX10_digest_88 ?_
      refine J_ladd (pc := 89) dX10_digest_89 ?_
      refine T_vlL (pc := 90) (fun x14 ex14 => ?_)
      refine J_lstore_n (pc := 90) (L' := [some (.ref 67), some (.long (iL x14)), none, some (.int (iI i3)), some (.int (iI i4))]) dX10_digest_90 rfl (by decide) rfl rfl ?_
      refine J_iinc (pc := 91) (L' := [some (.ref 67), some (.long (iL x14)), none, some (.int (iI i3)), some (.int (iI (i4 + 1)))]) dX10_digest_91 rfl (by decide) rfl rfl ?_
      refine J_goto (pc := 94) (tgt := 70) dX10_digest_94 (by decide) ?_
      exact ih x14 (i4 + 1) m12
def f_X10_digest_L59 (K : Int → Mem → Option (Int × Mem)) : Nat → Int → Int → Mem → Option (Int × Mem)
  | 0, _, _, _ => none
  | u + 1, i1, i3, mu59 => if w32 i3 < w32 (mu59 67 0) then (f_X10_digest_L70 (fun x15 m16 => f_X10_digest_L59 K u x15 (i3 + 1) m16) i3 100000 i1 0 mu59) else (K i1 mu59)
set_option maxRecDepth 40000 in
theorem j_X10_digest_L59 {l : Launch} {G : qG} {K : Int → Mem → Option (Int × Mem)} (hK : ∀ (x1 : Int) (m : Mem), qJ l G yX10_digest cX10_digest 5 (some .long) 5 103 [some (.ref 67), some (.long (iL x1)), none, none, none] [] (lay m) (lf eL (K x1 m))) : ∀ (u : Nat) (i1 : Int) (i3 : Int) (mu59 : Mem), qJ l G yX10_digest cX10_digest 5 (some .long) 5 59 [some (.ref 67), some (.long (iL i1)), none, some (.int (iI i3)), none] [] (lay mu59) (lf eL (f_X10_digest_L59 K u i1 i3 mu59)) := by
  intro u
  induction u with
  | zero => intro _ _ mu59; exact T_none
  | succ u ih =>
    intro i1 i3 mu59
    rw [f_X10_digest_L59]
    refine J_iload_n (pc := 59) dX10_digest_59 rfl rfl ?_
    refine J_aload_n (pc := 60) dX10_digest_60 rfl rfl rfl ?_
    refine tg_X10_104 (pc := 61) rfl dX10_digest_61 ?_
    refine T_icmp_ge (pc := 64) (tgt := 103) dX10_digest_64 (by decide) (fun h10 => ?_) (fun h10 => ?_)
    · refine J_dropf (pc := 103) (L' := [some (.ref 67), some (.long (iL i1)), none, none, none]) [true, true, false, false, false] rfl ?_
      exact hK i1 mu59
    · refine J_iconst (pc := 67) dX10_digest_67 ?_
      refine J_istore (pc := 68) (L' := [some (.ref 67), some (.long (iL i1)), none, some (.int (iI i3)), some (.int (iI 0))]) dX10_digest_68 (by decide) rfl rfl ?_
      refine j_X10_digest_L70 ?_ 100000 i1 0 mu59
      · intro x15 m16
        refine J_iinc (pc := 97) (L' := [some (.ref 67), some (.long (iL x15)), none, some (.int (iI (i3 + 1))), none]) dX10_digest_97 rfl (by decide) rfl rfl ?_
        refine J_goto (pc := 100) (tgt := 59) dX10_digest_100 (by decide) ?_
        exact ih x15 (i3 + 1) m16
def f_X10_digest_L116 (K : Int → Mem → Option (Int × Mem)) (i3 : Int) : Nat → Int → Int → Mem → Option (Int × Mem)
  | 0, _, _, _ => none
  | u + 1, i1, i4, mu116 => if w32 i4 < w32 5 then (bd (f_X10_valleyOf mu116 i3 i4) fun r22 m21 => vl ((31 * i1) + (w32 r22)) fun x23 => f_X10_digest_L116 K i3 u x23 (i4 + 1) m21) else (K i1 mu116)
set_option maxRecDepth 40000 in
theorem j_X10_digest_L116 {l : Launch} {G : qG} {K : Int → Mem → Option (Int × Mem)} {i3 : Int} (hK : ∀ (x1 : Int) (m : Mem), qJ l G yX10_digest cX10_digest 5 (some .long) 5 143 [some (.ref 67), some (.long (iL x1)), none, some (.int (iI i3)), none] [] (lay m) (lf eL (K x1 m))) : ∀ (u : Nat) (i1 : Int) (i4 : Int) (mu116 : Mem), qJ l G yX10_digest cX10_digest 5 (some .long) 5 116 [some (.ref 67), some (.long (iL i1)), none, some (.int (iI i3)), some (.int (iI i4))] [] (lay mu116) (lf eL (f_X10_digest_L116 K i3 u i1 i4 mu116)) := by
  intro u
  induction u with
  | zero => intro _ _ mu116; exact T_none
  | succ u ih =>
    intro i1 i4 mu116
    rw [f_X10_digest_L116]
    refine J_iload (pc := 116) dX10_digest_116 rfl ?_
    refine J_iconst (pc := 118) dX10_digest_118 ?_
    refine T_icmp_ge (pc := 119) (tgt := 143) dX10_digest_119 (by decide) (fun h20 => ?_) (fun h20 => ?_)
    · refine J_dropf (pc := 143) (L' := [some (.ref 67), some (.long (iL i1)), none, some (.int (iI i3)), none]) [true, true, false, true, false] rfl ?_
      exact hK i1 mu116
    · refine J_ldc2 (pc := 122) (z := 31) dX10_digest_122 lk_X10_315 (by decide) ?_
      refine J_lload_n (pc := 125) dX10_digest_125 rfl rfl ?_
      refine J_lmul (pc := 126) dX10_digest_126 ?_
      refine J_aload_n (pc := 127) dX10_digest_127 rfl rfl rfl ?_
      refine J_iload_n (pc := 128) dX10_digest_128 rfl rfl ?_
      refine J_iload (pc := 129) dX10_digest_129 rfl ?_
      refine T_callVI (pc := 131) (As := [.int (iI i3), .int (iI i4)]) (k := 67) (st := [.long (iL (31 * i1))]) ok_yX10_valleyOf lm_X10_210 dX10_digest_131 (by decide) rfl rfl (by decide) (Nat.le_of_ble_eq_true rfl) (m_X10_valleyOf mu116 i3 i4) (fun r22 m21 em21 => ?_)
      refine J_i2l (pc := 134) dX10_digest_134 ?_
      refine J_ladd (pc := 135) dX10_digest_135 ?_
      refine T_vlL (pc := 136) (fun x23 ex23 => ?_)
      refine J_lstore_n (pc := 136) (L' := [some (.ref 67), some (.long (iL x23)), none, some (.int (iI i3)), some (.int (iI i4))]) dX10_digest_136 rfl (by decide) rfl rfl ?_
      refine J_iinc (pc := 137) (L' := [some (.ref 67), some (.long (iL x23)), none, some (.int (iI i3)), some (.int (iI (i4 + 1)))]) dX10_digest_137 rfl (by decide) rfl rfl ?_
      refine J_goto (pc := 140) (tgt := 116) dX10_digest_140 (by decide) ?_
      exact ih x23 (i4 + 1) m21
def f_X10_digest_L105 (K : Int → Mem → Option (Int × Mem)) : Nat → Int → Int → Mem → Option (Int × Mem)
  | 0, _, _, _ => none
  | u + 1, i1, i3, mu105 => if w32 i3 < w32 (mu105 67 1) then (f_X10_digest_L116 (fun x24 m25 => f_X10_digest_L105 K u x24 (i3 + 1) m25) i3 100000 i1 0 mu105) else (K i1 mu105)
set_option maxRecDepth 40000 in
theorem j_X10_digest_L105 {l : Launch} {G : qG} {K : Int → Mem → Option (Int × Mem)} (hK : ∀ (x1 : Int) (m : Mem), qJ l G yX10_digest cX10_digest 5 (some .long) 5 149 [some (.ref 67), some (.long (iL x1)), none, none, none] [] (lay m) (lf eL (K x1 m))) : ∀ (u : Nat) (i1 : Int) (i3 : Int) (mu105 : Mem), qJ l G yX10_digest cX10_digest 5 (some .long) 5 105 [some (.ref 67), some (.long (iL i1)), none, some (.int (iI i3)), none] [] (lay mu105) (lf eL (f_X10_digest_L105 K u i1 i3 mu105)) := by
  intro u
  induction u with
  | zero => intro _ _ mu105; exact T_none
  | succ u ih =>
    intro i1 i3 mu105
    rw [f_X10_digest_L105]
    refine J_iload_n (pc := 105) dX10_digest_105 rfl rfl ?_
    refine J_aload_n (pc := 106) dX10_digest_106 rfl rfl rfl ?_
    refine tg_X10_107 (pc := 107) rfl dX10_digest_107 ?_
    refine T_icmp_ge (pc := 110) (tgt := 149) dX10_digest_110 (by decide) (fun h19 => ?_) (fun h19 => ?_)
    · refine J_dropf (pc := 149) (L' := [some (.ref 67), some (.long (iL i1)), none, none, none]) [true, true, false, false, false] rfl ?_
      exact hK i1 mu105
    · refine J_iconst (pc := 113) dX10_digest_113 ?_
      refine J_istore (pc := 114) (L' := [some (.ref 67), some (.long (iL i1)), none, some (.int (iI i3)), some (.int (iI 0))]) dX10_digest_114 (by decide) rfl rfl ?_
      refine j_X10_digest_L116 ?_ 100000 i1 0 mu105
      · intro x24 m25
        refine J_iinc (pc := 143) (L' := [some (.ref 67), some (.long (iL x24)), none, some (.int (iI (i3 + 1))), none]) dX10_digest_143 rfl (by decide) rfl rfl ?_
        refine J_goto (pc := 146) (tgt := 105) dX10_digest_146 (by decide) ?_
        exact ih x24 (i3 + 1) m25
def f_X10_digest_L151 (K : Int → Mem → Option (Int × Mem)) : Nat → Int → Int → Mem → Option (Int × Mem)
  | 0, _, _, _ => none
  | u + 1, i1, i3, mu151 => if w32 i3 < w32 3 then (ck i3 3 (vl ((31 * i1) + (w32 (mu151 80 (w32 i3).toNat))) fun x30 => f_X10_digest_L151 K u x30 (i3 + 1) mu151)) else (K i1 mu151)
set_option maxRecDepth 40000 in
theorem j_X10_digest_L151 {l : Launch} {G : qG} {K : Int → Mem → Option (Int × Mem)} (hK : ∀ (x1 : Int) (m : Mem), qJ l G yX10_digest cX10_digest 5 (some .long) 5 176 [some (.ref 67), some (.long (iL x1)), none, none, none] [] (lay m) (lf eL (K x1 m))) : ∀ (u : Nat) (i1 : Int) (i3 : Int) (mu151 : Mem), qJ l G yX10_digest cX10_digest 5 (some .long) 5 151 [some (.ref 67), some (.long (iL i1)), none, some (.int (iI i3)), none] [] (lay mu151) (lf eL (f_X10_digest_L151 K u i1 i3 mu151)) := by
  intro u
  induction u with
  | zero => intro _ _ mu151; exact T_none
  | succ u ih =>
    intro i1 i3 mu151
    rw [f_X10_digest_L151]
    refine J_iload_n (pc := 151) dX10_digest_151 rfl rfl ?_
    refine J_iconst (pc := 152) dX10_digest_152 ?_
    refine T_icmp_ge (pc := 153) (tgt := 176) dX10_digest_153 (by decide) (fun h28 => ?_) (fun h28 => ?_)
    · refine J_dropf (pc := 176) (L' := [some (.ref 67), some (.long (iL i1)), none, none, none]) [true, true, false, false, false] rfl ?_
      exact hK i1 mu151
    · refine J_ldc2 (pc := 156) (z := 31) dX10_digest_156 lk_X10_315 (by decide) ?_
      refine J_lload_n (pc := 159) dX10_digest_159 rfl rfl ?_
      refine J_lmul (pc := 160) dX10_digest_160 ?_
      refine J_aload_n (pc := 161) dX10_digest_161 rfl rfl rfl ?_
      refine tg_X10_50 (pc := 162) rfl dX10_digest_162 ?_
      refine J_iload_n (pc := 165) dX10_digest_165 rfl rfl ?_
      refine T_iaload (pc := 166) (by decide) rfl dX10_digest_166 (fun h29 => ?_)
      refine J_i2l (pc := 167) dX10_digest_167 ?_
      refine J_ladd (pc := 168) dX10_digest_168 ?_
      refine T_vlL (pc := 169) (fun x30 ex30 => ?_)
      refine J_lstore_n (pc := 169) (L' := [some (.ref 67), some (.long (iL x30)), none, some (.int (iI i3)), none]) dX10_digest_169 rfl (by decide) rfl rfl ?_
      refine J_iinc (pc := 170) (L' := [some (.ref 67), some (.long (iL x30)), none, some (.int (iI (i3 + 1))), none]) dX10_digest_170 rfl (by decide) rfl rfl ?_
      refine J_goto (pc := 173) (tgt := 151) dX10_digest_173 (by decide) ?_
      exact ih x30 (i3 + 1) mu151
def f_X10_digest_L201 (K : Int → Mem → Option (Int × Mem)) (i3 : Int) : Nat → Int → Int → Mem → Option (Int × Mem)
  | 0, _, _, _ => none
  | u + 1, i1, i4, mu201 => ck i3 6 (if w32 i4 < w32 (mu201 76 (w32 i3).toNat) then (ck ((40 * i3) + i4) 240 (vl ((31 * i1) + (w32 (mu201 77 (w32 ((40 * i3) + i4)).toNat))) fun x39 => f_X10_digest_L201 K i3 u x39 (i4 + 1) mu201)) else (K i1 mu201))
set_option maxRecDepth 40000 in
theorem j_X10_digest_L201 {l : Launch} {G : qG} {K : Int → Mem → Option (Int × Mem)} {i3 : Int} (hK : ∀ (x1 : Int) (m : Mem), qJ l G yX10_digest cX10_digest 5 (some .long) 5 238 [some (.ref 67), some (.long (iL x1)), none, some (.int (iI i3)), none] [] (lay m) (lf eL (K x1 m))) : ∀ (u : Nat) (i1 : Int) (i4 : Int) (mu201 : Mem), qJ l G yX10_digest cX10_digest 5 (some .long) 5 201 [some (.ref 67), some (.long (iL i1)), none, some (.int (iI i3)), some (.int (iI i4))] [] (lay mu201) (lf eL (f_X10_digest_L201 K i3 u i1 i4 mu201)) := by
  intro u
  induction u with
  | zero => intro _ _ mu201; exact T_none
  | succ u ih =>
    intro i1 i4 mu201
    rw [f_X10_digest_L201]
    refine J_iload (pc := 201) dX10_digest_201 rfl ?_
    refine J_aload_n (pc := 203) dX10_digest_203 rfl rfl rfl ?_
    refine tg_X10_38 (pc := 204) rfl dX10_digest_204 ?_
    refine J_iload_n (pc := 207) dX10_digest_207 rfl rfl ?_
    refine T_iaload (pc := 208) (by decide) rfl dX10_digest_208 (fun h36 => ?_)
    refine T_icmp_ge (pc := 209) (tgt := 238) dX10_digest_209 (by decide) (fun h37 => ?_) (fun h37 => ?_)
    · refine J_dropf (pc := 238) (L' := [some (.ref 67), some (.long (iL i1)), none, some (.int (iI i3)), none]) [true, true, false, true, false] rfl ?_
      exact hK i1 mu201
    · refine J_ldc2 (pc := 212) (z := 31) dX10_digest_212 lk_X10_315 (by decide) ?_
      refine J_lload_n (pc := 215) dX10_digest_215 rfl rfl ?_
      refine J_lmul (pc := 216) dX10_digest_216 ?_
      refine J_aload_n (pc := 217) dX10_digest_217 rfl rfl rfl ?_
      refine tg_X10_41 (pc := 218) rfl dX10_digest_218 ?_
      refine J_bipush (pc := 221) dX10_digest_221 (by decide) (by decide) ?_
      refine J_iload_n (pc := 223) dX10_digest_223 rfl rfl ?_
      refine J_imul (pc := 224) dX10_digest_224 ?_
      refine J_iload (pc := 225) dX10_digest_225 rfl ?_
      refine J_iadd (pc := 227) dX10_digest_227 ?_
      refine T_iaload (pc := 228) (by decide) rfl dX10_digest_228 (fun h38 => ?_)
      refine J_i2l (pc := 229) dX10_digest_229 ?_
      refine J_ladd (pc := 230) dX10_digest_230 ?_
      refine T_vlL (pc := 231) (fun x39 ex39 => ?_)
      refine J_lstore_n (pc := 231) (L' := [some (.ref 67), some (.long (iL x39)), none, some (.int (iI i3)), some (.int (iI i4))]) dX10_digest_231 rfl (by decide) rfl rfl ?_
      refine J_iinc (pc := 232) (L' := [some (.ref 67), some (.long (iL x39)), none, some (.int (iI i3)), some (.int (iI (i4 + 1)))]) dX10_digest_232 rfl (by decide) rfl rfl ?_
      refine J_goto (pc := 235) (tgt := 201) dX10_digest_235 (by decide) ?_
      exact ih x39 (i4 + 1) mu201
def f_X10_digest_L178 (K : Int → Mem → Option (Int × Mem)) : Nat → Int → Int → Mem → Option (Int × Mem)
  | 0, _, _, _ => none
  | u + 1, i1, i3, mu178 => if w32 i3 < w32 6 then (ck i3 6 (vl ((31 * i1) + (w32 (mu178 76 (w32 i3).toNat))) fun x35 => f_X10_digest_L201 (fun x40 m41 => f_X10_digest_L178 K u x40 (i3 + 1) m41) i3 100000 x35 0 mu178)) else (K i1 mu178)
set_option maxRecDepth 40000 in
theorem j_X10_digest_L178 {l : Launch} {G : qG} {K : Int → Mem → Option (Int × Mem)} (hK : ∀ (x1 : Int) (m : Mem), qJ l G yX10_digest cX10_digest 5 (some .long) 5 244 [some (.ref 67), some (.long (iL x1)), none, none, none] [] (lay m) (lf eL (K x1 m))) : ∀ (u : Nat) (i1 : Int) (i3 : Int) (mu178 : Mem), qJ l G yX10_digest cX10_digest 5 (some .long) 5 178 [some (.ref 67), some (.long (iL i1)), none, some (.int (iI i3)), none] [] (lay mu178) (lf eL (f_X10_digest_L178 K u i1 i3 mu178)) := by
  intro u
  induction u with
  | zero => intro _ _ mu178; exact T_none
  | succ u ih =>
    intro i1 i3 mu178
    rw [f_X10_digest_L178]
    refine J_iload_n (pc := 178) dX10_digest_178 rfl rfl ?_
    refine J_bipush (pc := 179) dX10_digest_179 (by decide) (by decide) ?_
    refine T_icmp_ge (pc := 181) (tgt := 244) dX10_digest_181 (by decide) (fun h33 => ?_) (fun h33 => ?_)
    · refine J_dropf (pc := 244) (L' := [some (.ref 67), some (.long (iL i1)), none, none, none]) [true, true, false, false, false] rfl ?_
      exact hK i1 mu178
    · refine J_ldc2 (pc := 184) (z := 31) dX10_digest_184 lk_X10_315 (by decide) ?_
      refine J_lload_n (pc := 187) dX10_digest_187 rfl rfl ?_
      refine J_lmul (pc := 188) dX10_digest_188 ?_
      refine J_aload_n (pc := 189) dX10_digest_189 rfl rfl rfl ?_
      refine tg_X10_38 (pc := 190) rfl dX10_digest_190 ?_
      refine J_iload_n (pc := 193) dX10_digest_193 rfl rfl ?_
      refine T_iaload (pc := 194) (by decide) rfl dX10_digest_194 (fun h34 => ?_)
      refine J_i2l (pc := 195) dX10_digest_195 ?_
      refine J_ladd (pc := 196) dX10_digest_196 ?_
      refine T_vlL (pc := 197) (fun x35 ex35 => ?_)
      refine J_lstore_n (pc := 197) (L' := [some (.ref 67), some (.long (iL x35)), none, some (.int (iI i3)), none]) dX10_digest_197 rfl (by decide) rfl rfl ?_
      refine J_iconst (pc := 198) dX10_digest_198 ?_
      refine J_istore (pc := 199) (L' := [some (.ref 67), some (.long (iL x35)), none, some (.int (iI i3)), some (.int (iI 0))]) dX10_digest_199 (by decide) rfl rfl ?_
      refine j_X10_digest_L201 ?_ 100000 x35 0 mu178
      · intro x40 m41
        refine J_iinc (pc := 238) (L' := [some (.ref 67), some (.long (iL x40)), none, some (.int (iI (i3 + 1))), none]) dX10_digest_238 rfl (by decide) rfl rfl ?_
        refine J_goto (pc := 241) (tgt := 178) dX10_digest_241 (by decide) ?_
        exact ih x40 (i3 + 1) m41
def f_X10_digest_L268 (K : Int → Mem → Option (Int × Mem)) (i3 : Int) : Nat → Int → Int → Mem → Option (Int × Mem)
  | 0, _, _, _ => none
  | u + 1, i1, i4, mu268 => ck i3 4 (if w32 i4 < w32 (mu268 78 (w32 i3).toNat) then (ck ((60 * i3) + i4) 240 (vl ((31 * i1) + (w32 (mu268 79 (w32 ((60 * i3) + i4)).toNat))) fun x50 => f_X10_digest_L268 K i3 u x50 (i4 + 1) mu268)) else (K i1 mu268))
set_option maxRecDepth 40000 in
theorem j_X10_digest_L268 {l : Launch} {G : qG} {K : Int → Mem → Option (Int × Mem)} {i3 : Int} (hK : ∀ (x1 : Int) (m : Mem), qJ l G yX10_digest cX10_digest 5 (some .long) 5 305 [some (.ref 67), some (.long (iL x1)), none, some (.int (iI i3)), none] [] (lay m) (lf eL (K x1 m))) : ∀ (u : Nat) (i1 : Int) (i4 : Int) (mu268 : Mem), qJ l G yX10_digest cX10_digest 5 (some .long) 5 268 [some (.ref 67), some (.long (iL i1)), none, some (.int (iI i3)), some (.int (iI i4))] [] (lay mu268) (lf eL (f_X10_digest_L268 K i3 u i1 i4 mu268)) := by
  intro u
  induction u with
  | zero => intro _ _ mu268; exact T_none
  | succ u ih =>
    intro i1 i4 mu268
    rw [f_X10_digest_L268]
    refine J_iload (pc := 268) dX10_digest_268 rfl ?_
    refine J_aload_n (pc := 270) dX10_digest_270 rfl rfl rfl ?_
    refine tg_X10_44 (pc := 271) rfl dX10_digest_271 ?_
    refine J_iload_n (pc := 274) dX10_digest_274 rfl rfl ?_
    refine T_iaload (pc := 275) (by decide) rfl dX10_digest_275 (fun h47 => ?_)
    refine T_icmp_ge (pc := 276) (tgt := 305) dX10_digest_276 (by decide) (fun h48 => ?_) (fun h48 => ?_)
    · refine J_dropf (pc := 305) (L' := [some (.ref 67), some (.long (iL i1)), none, some (.int (iI i3)), none]) [true, true, false, true, false] rfl ?_
      exact hK i1 mu268
    · refine J_ldc2 (pc := 279) (z := 31) dX10_digest_279 lk_X10_315 (by decide) ?_
      refine J_lload_n (pc := 282) dX10_digest_282 rfl rfl ?_
      refine J_lmul (pc := 283) dX10_digest_283 ?_
      refine J_aload_n (pc := 284) dX10_digest_284 rfl rfl rfl ?_
      refine tg_X10_47 (pc := 285) rfl dX10_digest_285 ?_
      refine J_bipush (pc := 288) dX10_digest_288 (by decide) (by decide) ?_
      refine J_iload_n (pc := 290) dX10_digest_290 rfl rfl ?_
      refine J_imul (pc := 291) dX10_digest_291 ?_
      refine J_iload (pc := 292) dX10_digest_292 rfl ?_
      refine J_iadd (pc := 294) dX10_digest_294 ?_
      refine T_iaload (pc := 295) (by decide) rfl dX10_digest_295 (fun h49 => ?_)
      refine J_i2l (pc := 296) dX10_digest_296 ?_
      refine J_ladd (pc := 297) dX10_digest_297 ?_
      refine T_vlL (pc := 298) (fun x50 ex50 => ?_)
      refine J_lstore_n (pc := 298) (L' := [some (.ref 67), some (.long (iL x50)), none, some (.int (iI i3)), some (.int (iI i4))]) dX10_digest_298 rfl (by decide) rfl rfl ?_
      refine J_iinc (pc := 299) (L' := [some (.ref 67), some (.long (iL x50)), none, some (.int (iI i3)), some (.int (iI (i4 + 1)))]) dX10_digest_299 rfl (by decide) rfl rfl ?_
      refine J_goto (pc := 302) (tgt := 268) dX10_digest_302 (by decide) ?_
      exact ih x50 (i4 + 1) mu268
def f_X10_digest_L246 : Nat → Int → Int → Mem → Option (Int × Mem)
  | 0, _, _, _ => none
  | u + 1, i1, i3, mu246 => if w32 i3 < w32 4 then (ck i3 4 (vl ((31 * i1) + (w32 (mu246 78 (w32 i3).toNat))) fun x46 => f_X10_digest_L268 (fun x51 m52 => f_X10_digest_L246 u x51 (i3 + 1) m52) i3 100000 x46 0 mu246)) else (some (i1, mu246))
set_option maxRecDepth 40000 in
theorem j_X10_digest_L246 {l : Launch} {G : qG} : ∀ (u : Nat) (i1 : Int) (i3 : Int) (mu246 : Mem), qJ l G yX10_digest cX10_digest 5 (some .long) 5 246 [some (.ref 67), some (.long (iL i1)), none, some (.int (iI i3)), none] [] (lay mu246) (lf eL (f_X10_digest_L246 u i1 i3 mu246)) := by
  intro u
  induction u with
  | zero => intro _ _ mu246; exact T_none
  | succ u ih =>
    intro i1 i3 mu246
    rw [f_X10_digest_L246]
    refine J_iload_n (pc := 246) dX10_digest_246 rfl rfl ?_
    refine J_iconst (pc := 247) dX10_digest_247 ?_
    refine T_icmp_ge (pc := 248) (tgt := 311) dX10_digest_248 (by decide) (fun h44 => ?_) (fun h44 => ?_)
    · refine J_lload_n (pc := 311) dX10_digest_311 rfl rfl ?_
      exact T_retL (pc := 312) rfl dX10_digest_312
    · refine J_ldc2 (pc := 251) (z := 31) dX10_digest_251 lk_X10_315 (by decide) ?_
      refine J_lload_n (pc := 254) dX10_digest_254 rfl rfl ?_
      refine J_lmul (pc := 255) dX10_digest_255 ?_
      refine J_aload_n (pc := 256) dX10_digest_256 rfl rfl rfl ?_
      refine tg_X10_44 (pc := 257) rfl dX10_digest_257 ?_
      refine J_iload_n (pc := 260) dX10_digest_260 rfl rfl ?_
      refine T_iaload (pc := 261) (by decide) rfl dX10_digest_261 (fun h45 => ?_)
      refine J_i2l (pc := 262) dX10_digest_262 ?_
      refine J_ladd (pc := 263) dX10_digest_263 ?_
      refine T_vlL (pc := 264) (fun x46 ex46 => ?_)
      refine J_lstore_n (pc := 264) (L' := [some (.ref 67), some (.long (iL x46)), none, some (.int (iI i3)), none]) dX10_digest_264 rfl (by decide) rfl rfl ?_
      refine J_iconst (pc := 265) dX10_digest_265 ?_
      refine J_istore (pc := 266) (L' := [some (.ref 67), some (.long (iL x46)), none, some (.int (iI i3)), some (.int (iI 0))]) dX10_digest_266 (by decide) rfl rfl ?_
      refine j_X10_digest_L268 ?_ 100000 x46 0 mu246
      · intro x51 m52
        refine J_iinc (pc := 305) (L' := [some (.ref 67), some (.long (iL x51)), none, some (.int (iI (i3 + 1))), none]) dX10_digest_305 rfl (by decide) rfl rfl ?_
        refine J_goto (pc := 308) (tgt := 246) dX10_digest_308 (by decide) ?_
        exact ih x51 (i3 + 1) m52
def f_X10_digest (m0 : Mem) : Option (Int × Mem) := f_X10_digest_L6 (fun x5 m6 => ck 0 16 (ck 1 16 (vl ((31 * ((31 * x5) + (w32 (m6 73 (w32 0).toNat)))) + (w32 (m6 73 (w32 1).toNat))) fun x9 => f_X10_digest_L59 (fun x17 m18 => f_X10_digest_L105 (fun x26 m27 => f_X10_digest_L151 (fun x31 m32 => f_X10_digest_L178 (fun x42 m43 => f_X10_digest_L246 100000 x42 0 m43) 100000 x31 0 m32) 100000 x26 0 m27) 100000 x17 0 m18) 100000 x9 0 m6))) 100000 17 0 m0
set_option maxRecDepth 40000 in
theorem m_X10_digest {l : Launch} {G : qG} (m0 : Mem) : qM l G 5 yX10_digest cX10_digest 5 (some .long) [.ref 67] (lay m0) (lf eL (f_X10_digest m0)) := by
  refine qM_of (L := [some (.ref 67), none, none, none, none]) (by decide +kernel) (Nat.le_of_ble_eq_true rfl) rfl ?_
  unfold f_X10_digest
  refine J_ldc2 (pc := 0) (z := 17) dX10_digest_0 lk_X10_313 (by decide) ?_
  refine J_lstore_n (pc := 3) (L' := [some (.ref 67), some (.long (iL 17)), none, none, none]) dX10_digest_3 rfl (by decide) rfl rfl ?_
  refine J_iconst (pc := 4) dX10_digest_4 ?_
  refine J_istore_n (pc := 5) (L' := [some (.ref 67), some (.long (iL 17)), none, some (.int (iI 0)), none]) dX10_digest_5 rfl (by decide) rfl rfl ?_
  refine j_X10_digest_L6 ?_ 100000 17 0 m0
  · intro x5 m6
    refine J_ldc2 (pc := 31) (z := 31) dX10_digest_31 lk_X10_315 (by decide) ?_
    refine J_ldc2 (pc := 34) (z := 31) dX10_digest_34 lk_X10_315 (by decide) ?_
    refine J_lload_n (pc := 37) dX10_digest_37 rfl rfl ?_
    refine J_lmul (pc := 38) dX10_digest_38 ?_
    refine J_aload_n (pc := 39) dX10_digest_39 rfl rfl rfl ?_
    refine tg_X10_25 (pc := 40) rfl dX10_digest_40 ?_
    refine J_iconst (pc := 43) dX10_digest_43 ?_
    refine T_iaload (pc := 44) (by decide) rfl dX10_digest_44 (fun h7 => ?_)
    refine J_i2l (pc := 45) dX10_digest_45 ?_
    refine J_ladd (pc := 46) dX10_digest_46 ?_
    refine J_lmul (pc := 47) dX10_digest_47 ?_
    refine J_aload_n (pc := 48) dX10_digest_48 rfl rfl rfl ?_
    refine tg_X10_25 (pc := 49) rfl dX10_digest_49 ?_
    refine J_iconst (pc := 52) dX10_digest_52 ?_
    refine T_iaload (pc := 53) (by decide) rfl dX10_digest_53 (fun h8 => ?_)
    refine J_i2l (pc := 54) dX10_digest_54 ?_
    refine J_ladd (pc := 55) dX10_digest_55 ?_
    refine T_vlL (pc := 56) (fun x9 ex9 => ?_)
    refine J_lstore_n (pc := 56) (L' := [some (.ref 67), some (.long (iL x9)), none, none, none]) dX10_digest_56 rfl (by decide) rfl rfl ?_
    refine J_iconst (pc := 57) dX10_digest_57 ?_
    refine J_istore_n (pc := 58) (L' := [some (.ref 67), some (.long (iL x9)), none, some (.int (iI 0)), none]) dX10_digest_58 rfl (by decide) rfl rfl ?_
    refine j_X10_digest_L59 ?_ 100000 x9 0 m6
    · intro x17 m18
      refine J_iconst (pc := 103) dX10_digest_103 ?_
      refine J_istore_n (pc := 104) (L' := [some (.ref 67), some (.long (iL x17)), none, some (.int (iI 0)), none]) dX10_digest_104 rfl (by decide) rfl rfl ?_
      refine j_X10_digest_L105 ?_ 100000 x17 0 m18
      · intro x26 m27
        refine J_iconst (pc := 149) dX10_digest_149 ?_
        refine J_istore_n (pc := 150) (L' := [some (.ref 67), some (.long (iL x26)), none, some (.int (iI 0)), none]) dX10_digest_150 rfl (by decide) rfl rfl ?_
        refine j_X10_digest_L151 ?_ 100000 x26 0 m27
        · intro x31 m32
          refine J_iconst (pc := 176) dX10_digest_176 ?_
          refine J_istore_n (pc := 177) (L' := [some (.ref 67), some (.long (iL x31)), none, some (.int (iI 0)), none]) dX10_digest_177 rfl (by decide) rfl rfl ?_
          refine j_X10_digest_L178 ?_ 100000 x31 0 m32
          · intro x42 m43
            refine J_iconst (pc := 244) dX10_digest_244 ?_
            refine J_istore_n (pc := 245) (L' := [some (.ref 67), some (.long (iL x42)), none, some (.int (iI 0)), none]) dX10_digest_245 rfl (by decide) rfl rfl ?_
            refine j_X10_digest_L246 100000 x42 0 m43
