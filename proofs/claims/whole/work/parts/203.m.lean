def f_X6_setFirst (m0 : Mem) (p0 : Int) : Option (Unit × Mem) := vm (wr m0 22 4 p0) fun m1 => ckc 0 0 3 3 3 (vm (cpy m1 24 25 (w32 0).toNat (w32 0).toNat (w32 3).toNat) fun m2 => some ((), m2))
set_option maxRecDepth 40000 in
theorem m_X6_setFirst {l : Launch} {G : qG} (m0 : Mem) (p0 : Int) : qM l G 1 yX6_setFirst cX6_setFirst 2 none [.ref 22, .int (iI p0)] (lay m0) (lf eU (f_X6_setFirst m0 p0)) := by
  refine qM_of (L := [some (.ref 22), some (.int (iI p0))]) (by decide +kernel) (Nat.le_of_ble_eq_true rfl) rfl ?_
  unfold f_X6_setFirst
  refine J_aload_n (pc := 0) dX6_setFirst_0 rfl rfl rfl ?_
  refine J_iload_n (pc := 1) dX6_setFirst_1 rfl rfl ?_
  refine tp_X6_28 (pc := 2) rfl dX6_setFirst_2 ?_
  refine T_vm (fun m1 em1 => ?_)
  refine J_aload_n (pc := 5) dX6_setFirst_5 rfl rfl rfl ?_
  refine tg_X6_17 (pc := 6) rfl dX6_setFirst_6 ?_
  refine J_iconst (pc := 9) dX6_setFirst_9 ?_
  refine J_aload_n (pc := 10) dX6_setFirst_10 rfl rfl rfl ?_
  refine tg_X6_21 (pc := 11) rfl dX6_setFirst_11 ?_
  refine J_iconst (pc := 14) dX6_setFirst_14 ?_
  refine J_iconst (pc := 15) dX6_setFirst_15 ?_
  refine T_copy (pc := 16) (by decide) lm_X6_105 (Nat.le_of_ble_eq_true rfl) (by decide) rfl (by decide) rfl dX6_setFirst_16 ?_
  refine T_vm (fun m2 em2 => ?_)
  exact T_retV (pc := 19) rfl dX6_setFirst_19
def f_X6_step (m0 : Mem) (p1 : Int) (p2 : Int) : Option (Unit × Mem) := ck p1 3 (vm (wr m0 24 (w32 p1).toNat p2) fun m2 => if w32 (p1 + 1) < w32 (m2 22 3) then (if w32 (p1 + 1) < w32 3 then (ck (p1 + 1) 3 (ck p1 3 (bd (f_X1_take m2 (26 + 2 * (w32 (p1 + 1)).toNat) (26 + 2 * (w32 p1).toNat)) fun _u m7 => ck (p1 + 1) 3 (bd (f_X1_goOn m7 (26 + 2 * (w32 (p1 + 1)).toNat) p2) fun r10 m9 => some ((), m9))))) else (some ((), m2))) else (some ((), m2)))
set_option maxRecDepth 40000 in
theorem m_X6_step {l : Launch} {G : qG} (m0 : Mem) (p1 : Int) (p2 : Int) : qM l G 5 yX6_step cX6_step 4 none [.ref 22, .ref 6, .int (iI p1), .int (iI p2)] (lay m0) (lf eU (f_X6_step m0 p1 p2)) := by
  refine qM_of (L := [some (.ref 22), some (.ref 6), some (.int (iI p1)), some (.int (iI p2))]) (by decide +kernel) (Nat.le_of_ble_eq_true rfl) rfl ?_
  unfold f_X6_step
  refine J_aload_n (pc := 0) dX6_step_0 rfl rfl rfl ?_
  refine tg_X6_17 (pc := 1) rfl dX6_step_1 ?_
  refine J_iload_n (pc := 4) dX6_step_4 rfl rfl ?_
  refine J_iload_n (pc := 5) dX6_step_5 rfl rfl ?_
  refine T_iastore (pc := 6) (by decide) rfl dX6_step_6 (fun h1 => ?_)
  refine T_vm (fun m2 em2 => ?_)
  refine J_iload_n (pc := 7) dX6_step_7 rfl rfl ?_
  refine J_iconst (pc := 8) dX6_step_8 ?_
  refine J_iadd (pc := 9) dX6_step_9 ?_
  refine J_aload_n (pc := 10) dX6_step_10 rfl rfl rfl ?_
  refine tg_X6_24 (pc := 11) rfl dX6_step_11 ?_
  refine T_icmp_ge (pc := 14) (tgt := 55) dX6_step_14 (by decide) (fun h3 => ?_) (fun h3 => ?_)
  · exact T_retV (pc := 55) rfl dX6_step_55
  · refine J_iload_n (pc := 17) dX6_step_17 rfl rfl ?_
    refine J_iconst (pc := 18) dX6_step_18 ?_
    refine J_iadd (pc := 19) dX6_step_19 ?_
    refine J_iconst (pc := 20) dX6_step_20 ?_
    refine T_icmp_ge (pc := 21) (tgt := 55) dX6_step_21 (by decide) (fun h4 => ?_) (fun h4 => ?_)
    · exact T_retV (pc := 55) rfl dX6_step_55
    · refine J_aload_n (pc := 24) dX6_step_24 rfl rfl rfl ?_
      refine tg_X6_11 (pc := 25) rfl dX6_step_25 ?_
      refine J_iload_n (pc := 28) dX6_step_28 rfl rfl ?_
      refine J_iconst (pc := 29) dX6_step_29 ?_
      refine J_iadd (pc := 30) dX6_step_30 ?_
      refine T_aaload (pc := 31) (by decide) rfl rfl dX6_step_31 (fun h5 => ?_)
      refine J_aload_n (pc := 32) dX6_step_32 rfl rfl rfl ?_
      refine tg_X6_11 (pc := 33) rfl dX6_step_33 ?_
      refine J_iload_n (pc := 36) dX6_step_36 rfl rfl ?_
      refine T_aaload (pc := 37) (by decide) rfl rfl dX6_step_37 (fun h6 => ?_)
      refine T_callVU (pc := 38) (As := [.ref (26 + 2 * (w32 p1).toNat)]) (k := (26 + 2 * (w32 (p1 + 1)).toNat)) (st := []) ok_yX1_take lm_X6_98 dX6_step_38 (oDay_l (oDay_e h5)) (oDay_o (oDay_e h5)) rfl (by decide) (Nat.le_of_ble_eq_true rfl) (m_X1_take m2 (26 + 2 * (w32 (p1 + 1)).toNat) (26 + 2 * (w32 p1).toNat) (oDay_e h5) (oDay_e h6)) (fun _u m7 em7 => ?_)
      refine J_aload_n (pc := 41) dX6_step_41 rfl rfl rfl ?_
      refine tg_X6_11 (pc := 42) rfl dX6_step_42 ?_
      refine J_iload_n (pc := 45) dX6_step_45 rfl rfl ?_
      refine J_iconst (pc := 46) dX6_step_46 ?_
      refine J_iadd (pc := 47) dX6_step_47 ?_
      refine T_aaload (pc := 48) (by decide) rfl rfl dX6_step_48 (fun h8 => ?_)
      refine J_aload_n (pc := 49) dX6_step_49 rfl rfl rfl ?_
      refine J_iload_n (pc := 50) dX6_step_50 rfl rfl ?_
      refine T_callVI (pc := 51) (As := [.ref 6, .int (iI p2)]) (k := (26 + 2 * (w32 (p1 + 1)).toNat)) (st := []) ok_yX1_goOn lm_X6_102 dX6_step_51 (oDay_l (oDay_e h8)) (oDay_o (oDay_e h8)) rfl (by decide) (Nat.le_of_ble_eq_true rfl) (m_X1_goOn m7 (26 + 2 * (w32 (p1 + 1)).toNat) p2 (oDay_e h8)) (fun r10 m9 em9 => ?_)
      refine J_pop (pc := 54) dX6_step_54 rfl ?_
      exact T_retV (pc := 55) rfl dX6_step_55
def f_X6_seekMost_L80 (R : Mem → Int → Int → Option (Unit × Mem)) (p1 : Int) (v9 : Int) (x14 : Int) : Nat → Int → Mem → Option (Unit × Mem)
  | 0, _, _ => none
  | u + 1, i7, mu80 => if w32 v9 < w32 i7 then (some ((), mu80)) else (jn (κ := Mem → Option (Unit × Mem)) (fun m17 => f_X6_seekMost_L80 R p1 v9 x14 u (i7 + 1) m17) fun k16 => if w32 (zand i7 (zxor v9 (-1))) = 0 then (bd (f_X6_step mu80 p1 i7) fun _u m19 => bd (R m19 (p1 + 1) x14) fun _u m20 => k16 m20) else (k16 mu80))
set_option maxRecDepth 40000 in
theorem j_X6_seekMost_L80 {l : Launch} {G : qG} {R : Mem → Int → Int → Option (Unit × Mem)} {p1 : Int} {v9 : Int} {x14 : Int} {d : Nat} (hd0 : 6 ≤ d) (hR : ∀ (m : Mem) (p1 : Int) (p2 : Int), qM l G d yX6_seekMost cX6_seekMost 8 none [.ref 22, .ref 6, .int (iI p1), .int (iI p2)] (lay m) (lf eU (R m p1 p2))) : ∀ (u : Nat) (i7 : Int) (mu80 : Mem), qJ l G yX6_seekMost cX6_seekMost 8 none (d + 1) 80 [some (.ref 22), some (.ref 6), some (.int (iI p1)), none, none, some (.int (iI v9)), some (.int (iI x14)), some (.int (iI i7))] [] (lay mu80) (lf eU (f_X6_seekMost_L80 R p1 v9 x14 u i7 mu80)) := by
  intro u
  induction u with
  | zero => intro _ mu80; exact T_none
  | succ u ih =>
    intro i7 mu80
    rw [f_X6_seekMost_L80]
    refine J_iload (pc := 80) dX6_seekMost_80 rfl ?_
    refine J_iload (pc := 82) dX6_seekMost_82 rfl ?_
    refine T_icmp_gt (pc := 84) (tgt := 121) dX6_seekMost_84 (by decide) (fun h15 => ?_) (fun h15 => ?_)
    · exact T_retV (pc := 121) rfl dX6_seekMost_121
    · refine J_iload (pc := 87) dX6_seekMost_87 rfl ?_
      refine J_iload (pc := 89) dX6_seekMost_89 rfl ?_
      refine J_iconst (pc := 91) dX6_seekMost_91 ?_
      refine J_ixor (pc := 92) dX6_seekMost_92 ?_
      refine J_iand (pc := 93) dX6_seekMost_93 ?_
      refine T_jn (κ := Mem → Option (Unit × Mem)) (fun k => ∀ (m17 : Mem), qJ l G yX6_seekMost cX6_seekMost 8 none (d + 1) 115 [some (.ref 22), some (.ref 6), some (.int (iI p1)), none, none, some (.int (iI v9)), some (.int (iI x14)), some (.int (iI i7))] [] (lay m17) (lf eU (k m17))) ?_ (fun k16 hk16 => ?_)
      · intro m17
        refine J_iinc (pc := 115) (L' := [some (.ref 22), some (.ref 6), some (.int (iI p1)), none, none, some (.int (iI v9)), some (.int (iI x14)), some (.int (iI (i7 + 1)))]) dX6_seekMost_115 rfl (by decide) rfl rfl ?_
        refine J_goto (pc := 118) (tgt := 80) dX6_seekMost_118 (by decide) ?_
        exact ih (i7 + 1) m17
      · refine T_if_ne (pc := 94) (tgt := 115) dX6_seekMost_94 (by decide) (fun h18 => ?_) (fun h18 => ?_)
        · exact hk16  mu80
        · refine J_aload_n (pc := 97) dX6_seekMost_97 rfl rfl rfl ?_
          refine J_aload_n (pc := 98) dX6_seekMost_98 rfl rfl rfl ?_
          refine J_iload_n (pc := 99) dX6_seekMost_99 rfl rfl ?_
          refine J_iload (pc := 100) dX6_seekMost_100 rfl ?_
          refine T_callVU (pc := 102) (As := [.ref 6, .int (iI p1), .int (iI i7)]) (k := 22) (st := []) ok_yX6_step lm_X6_69 dX6_seekMost_102 (by decide) rfl rfl (by omega) (Nat.le_of_ble_eq_true rfl) (m_X6_step mu80 p1 i7) (fun _u m19 em19 => ?_)
          refine J_aload_n (pc := 105) dX6_seekMost_105 rfl rfl rfl ?_
          refine J_aload_n (pc := 106) dX6_seekMost_106 rfl rfl rfl ?_
          refine J_iload_n (pc := 107) dX6_seekMost_107 rfl rfl ?_
          refine J_iconst (pc := 108) dX6_seekMost_108 ?_
          refine J_iadd (pc := 109) dX6_seekMost_109 ?_
          refine J_iload (pc := 110) dX6_seekMost_110 rfl ?_
          refine T_callVU (pc := 112) (As := [.ref 6, .int (iI (p1 + 1)), .int (iI x14)]) (k := 22) (st := []) ok_yX6_seekMost lm_X6_45 dX6_seekMost_112 (by decide) rfl rfl (Nat.lt_succ_self _) (Nat.le_of_ble_eq_true rfl) (hR m19 (p1 + 1) x14) (fun _u m20 em20 => ?_)
          exact hk16  m20
def f_X6_seekMost_B (R : Mem → Int → Int → Option (Unit × Mem)) (m0 : Mem) (p1 : Int) (p2 : Int) : Option (Unit × Mem) := jn (κ := Mem → Option (Unit × Mem)) (fun m2 => if w32 (m2 22 4) < w32 p2 then (bd (f_X6_setFirst m2 p2) fun _u m4 => some ((), m4)) else (some ((), m2))) fun k1 => if w32 p1 < w32 (m0 22 3) then (if w32 p1 < w32 3 then (ck p1 3 (bd (f_X1_look m0 (26 + 2 * (w32 p1).toNat)) fun _u m8 => vl (if w32 p1 = w32 ((m8 22 3) - 1) then 0 else (m8 (26 + 2 * (w32 p1).toNat) 1)) fun v9 => ck 0 16 (bd (f_X8_gainOfAll m8 (m8 ((26 + 2 * (w32 p1).toNat) + 1) (w32 0).toNat)) fun r13 m12 => vl (p2 + r13) fun x14 => f_X6_seekMost_L80 R p1 v9 x14 100000 0 m12))) else (k1 m0)) else (k1 m0)
def f_X6_seekMost : Nat → Mem → Int → Int → Option (Unit × Mem)
  | 0 => fun _ _ _ => none
  | u + 1 => f_X6_seekMost_B (f_X6_seekMost u)
set_option maxRecDepth 40000 in
theorem b_X6_seekMost {l : Launch} {G : qG} {d : Nat} {R : Mem → Int → Int → Option (Unit × Mem)} (hd0 : 6 ≤ d) (hR : ∀ (m : Mem) (p1 : Int) (p2 : Int), qM l G d yX6_seekMost cX6_seekMost 8 none [.ref 22, .ref 6, .int (iI p1), .int (iI p2)] (lay m) (lf eU (R m p1 p2))) (m0 : Mem) (p1 : Int) (p2 : Int) : qM l G (d + 1) yX6_seekMost cX6_seekMost 8 none [.ref 22, .ref 6, .int (iI p1), .int (iI p2)] (lay m0) (lf eU (f_X6_seekMost_B R m0 p1 p2)) := by
  refine qM_of (L := [some (.ref 22), some (.ref 6), some (.int (iI p1)), some (.int (iI p2)), none, none, none, none]) (by decide +kernel) (Nat.le_of_ble_eq_true rfl) rfl ?_
  unfold f_X6_seekMost_B
  refine J_iload_n (pc := 0) dX6_seekMost_0 rfl rfl ?_
  refine J_aload_n (pc := 1) dX6_seekMost_1 rfl rfl rfl ?_
  refine tg_X6_24 (pc := 2) rfl dX6_seekMost_2 ?_
  refine T_jn (κ := Mem → Option (Unit × Mem)) (fun k => ∀ (m2 : Mem), qJ l G yX6_seekMost cX6_seekMost 8 none (d + 1) 13 [some (.ref 22), none, none, some (.int (iI p2)), none, none, none, none] [] (lay m2) (lf eU (k m2))) ?_ (fun k1 hk1 => ?_)
  · intro m2
    refine J_iload_n (pc := 13) dX6_seekMost_13 rfl rfl ?_
    refine J_aload_n (pc := 14) dX6_seekMost_14 rfl rfl rfl ?_
    refine tg_X6_28 (pc := 15) rfl dX6_seekMost_15 ?_
    refine T_icmp_le (pc := 18) (tgt := 26) dX6_seekMost_18 (by decide) (fun h3 => ?_) (fun h3 => ?_)
    · exact T_retV (pc := 26) rfl dX6_seekMost_26
    · refine J_aload_n (pc := 21) dX6_seekMost_21 rfl rfl rfl ?_
      refine J_iload_n (pc := 22) dX6_seekMost_22 rfl rfl ?_
      refine T_callVU (pc := 23) (As := [.int (iI p2)]) (k := 22) (st := []) ok_yX6_setFirst lm_X6_49 dX6_seekMost_23 (by decide) rfl rfl (by omega) (Nat.le_of_ble_eq_true rfl) (m_X6_setFirst m2 p2) (fun _u m4 em4 => ?_)
      exact T_retV (pc := 26) rfl dX6_seekMost_26
  · refine T_icmp_ge (pc := 5) (tgt := 13) dX6_seekMost_5 (by decide) (fun h5 => ?_) (fun h5 => ?_)
    · refine J_dropf (pc := 13) (L' := [some (.ref 22), none, none, some (.int (iI p2)), none, none, none, none]) [true, false, false, true, false, false, false, false] rfl ?_
      exact hk1  m0
    · refine J_iload_n (pc := 8) dX6_seekMost_8 rfl rfl ?_
      refine J_iconst (pc := 9) dX6_seekMost_9 ?_
      refine T_icmp_lt (pc := 10) (tgt := 27) dX6_seekMost_10 (by decide) (fun h6 => ?_) (fun h6 => ?_)
      · refine J_aload_n (pc := 27) dX6_seekMost_27 rfl rfl rfl ?_
        refine tg_X6_11 (pc := 28) rfl dX6_seekMost_28 ?_
        refine J_iload_n (pc := 31) dX6_seekMost_31 rfl rfl ?_
        refine T_aaload (pc := 32) (by decide) rfl rfl dX6_seekMost_32 (fun h7 => ?_)
        refine J_astore (pc := 33) (L' := [some (.ref 22), some (.ref 6), some (.int (iI p1)), some (.int (iI p2)), some (.ref (26 + 2 * (w32 p1).toNat)), none, none, none]) dX6_seekMost_33 (by decide) rfl rfl ?_
        refine J_aload (pc := 35) dX6_seekMost_35 rfl rfl ?_
        refine J_aload_n (pc := 37) dX6_seekMost_37 rfl rfl rfl ?_
        refine T_callVU (pc := 38) (As := [.ref 6]) (k := (26 + 2 * (w32 p1).toNat)) (st := []) ok_yX1_look lm_X6_53 dX6_seekMost_38 (oDay_l (oDay_e h7)) (oDay_o (oDay_e h7)) rfl (by omega) (Nat.le_of_ble_eq_true rfl) (m_X1_look m0 (26 + 2 * (w32 p1).toNat) (oDay_e h7)) (fun _u m8 em8 => ?_)
        refine J_iload_n (pc := 41) dX6_seekMost_41 rfl rfl ?_
        refine J_aload_n (pc := 42) dX6_seekMost_42 rfl rfl rfl ?_
        refine tg_X6_24 (pc := 43) rfl dX6_seekMost_43 ?_
        refine J_iconst (pc := 46) dX6_seekMost_46 ?_
        refine J_isub (pc := 47) dX6_seekMost_47 ?_
        refine T_vl (fun v9 ev9 => ?_)
        refine T_dia (j := 60) (v := v9) (LT := [some (.ref 22), some (.ref 6), some (.int (iI p1)), some (.int (iI p2)), some (.ref (26 + 2 * (w32 p1).toNat)), none, none, none]) (sT := []) ?_ (fun hj10 => ?_)
        · refine J_istore (pc := 60) (L' := [some (.ref 22), some (.ref 6), some (.int (iI p1)), some (.int (iI p2)), some (.ref (26 + 2 * (w32 p1).toNat)), some (.int (iI v9)), none, none]) dX6_seekMost_60 (by decide) rfl rfl ?_
          refine J_iload_n (pc := 62) dX6_seekMost_62 rfl rfl ?_
          refine J_aload_n (pc := 63) dX6_seekMost_63 rfl rfl rfl ?_
          refine J_aload (pc := 64) dX6_seekMost_64 rfl rfl ?_
          refine tg_X6_60 (pc := 66) (oDay_e h7) rfl dX6_seekMost_66 ?_
          refine J_iconst (pc := 69) dX6_seekMost_69 ?_
          refine T_iaload (pc := 70) (oDay_l1 (oDay_e h7)) (oDay_a1 (oDay_e h7)) dX6_seekMost_70 (fun h11 => ?_)
          refine T_callVI (pc := 71) (As := [.int (iI (m8 ((26 + 2 * (w32 p1).toNat) + 1) (w32 0).toNat))]) (k := 6) (st := [.int (iI p2)]) ok_yX8_gainOfAll lm_X6_63 dX6_seekMost_71 (by decide) rfl rfl (by omega) (Nat.le_of_ble_eq_true rfl) (m_X8_gainOfAll m8 (m8 ((26 + 2 * (w32 p1).toNat) + 1) (w32 0).toNat)) (fun r13 m12 em12 => ?_)
          refine J_iadd (pc := 74) dX6_seekMost_74 ?_
          refine T_vlI (pc := 75) (fun x14 ex14 => ?_)
          refine J_istore (pc := 75) (L' := [some (.ref 22), some (.ref 6), some (.int (iI p1)), some (.int (iI p2)), some (.ref (26 + 2 * (w32 p1).toNat)), some (.int (iI v9)), some (.int (iI x14)), none]) dX6_seekMost_75 (by decide) rfl rfl ?_
          refine J_iconst (pc := 77) dX6_seekMost_77 ?_
          refine J_istore (pc := 78) (L' := [some (.ref 22), some (.ref 6), some (.int (iI p1)), some (.int (iI p2)), some (.ref (26 + 2 * (w32 p1).toNat)), some (.int (iI v9)), some (.int (iI x14)), some (.int (iI 0))]) dX6_seekMost_78 (by decide) rfl rfl ?_
          refine J_dropf (pc := 80) (L' := [some (.ref 22), some (.ref 6), some (.int (iI p1)), none, none, some (.int (iI v9)), some (.int (iI x14)), some (.int (iI 0))]) [true, true, true, false, false, true, true, true] rfl ?_
          refine j_X6_seekMost_L80 hd0 hR 100000 0 m12
        · refine T_icmp_ne_same (pc := 48) (tgt := 55) dX6_seekMost_48 (by decide) (fun h21 => ?_) (fun h21 => ?_)
          · refine J_aload (pc := 55) dX6_seekMost_55 rfl rfl ?_
            refine tg_X6_57 (pc := 57) (oDay_e h7) rfl dX6_seekMost_57 ?_
            exact T_top (by rw [ev9, if_neg h21]) hj10
          · refine J_iconst (pc := 51) dX6_seekMost_51 ?_
            refine J_goto (pc := 52) (tgt := 60) dX6_seekMost_52 (by decide) ?_
            exact T_top (by rw [ev9, if_pos h21]) hj10
      · refine J_dropf (pc := 13) (L' := [some (.ref 22), none, none, some (.int (iI p2)), none, none, none, none]) [true, false, false, true, false, false, false, false] rfl ?_
        exact hk1  m0
theorem m_X6_seekMost {l : Launch} {G : qG} : ∀ (u : Nat) (m0 : Mem) (p1 : Int) (p2 : Int), qM l G (6 + u) yX6_seekMost cX6_seekMost 8 none [.ref 22, .ref 6, .int (iI p1), .int (iI p2)] (lay m0) (lf eU (f_X6_seekMost u m0 p1 p2)) := by
  intro u
  induction u with
  | zero => intro m0 p1 p2 r B h; cases h
  | succ u ih => intro m0 p1 p2; exact b_X6_seekMost (by omega) ih m0 p1 p2
def f_X6_mostGain (m0 : Mem) (p2 : Int) : Option (Int × Mem) := bd (f_X6_begin m0 p2) fun _u m1 => vm (wr m1 22 4 (-1)) fun m2 => bd (f_X6_seekMost 9 m2 0 0) fun _u m3 => some (m3 22 4, m3)
set_option maxRecDepth 40000 in
theorem m_X6_mostGain {l : Launch} {G : qG} (m0 : Mem) (p2 : Int) : qM l G 16 yX6_mostGain cX6_mostGain 4 (some .int) [.ref 22, .ref 6, .ref 13, .int (iI p2)] (lay m0) (lf eI (f_X6_mostGain m0 p2)) := by
  refine qM_of (L := [some (.ref 22), some (.ref 6), some (.ref 13), some (.int (iI p2))]) (by decide +kernel) (Nat.le_of_ble_eq_true rfl) rfl ?_
  unfold f_X6_mostGain
  refine J_aload_n (pc := 0) dX6_mostGain_0 rfl rfl rfl ?_
  refine J_aload_n (pc := 1) dX6_mostGain_1 rfl rfl rfl ?_
  refine J_iload_n (pc := 2) dX6_mostGain_2 rfl rfl ?_
  refine T_callVU (pc := 3) (As := [.ref 13, .int (iI p2)]) (k := 22) (st := []) ok_yX6_begin lm_X6_41 dX6_mostGain_3 (by decide) rfl rfl (by decide) (Nat.le_of_ble_eq_true rfl) (m_X6_begin m0 p2) (fun _u m1 em1 => ?_)
  refine J_aload_n (pc := 6) dX6_mostGain_6 rfl rfl rfl ?_
  refine J_iconst (pc := 7) dX6_mostGain_7 ?_
  refine tp_X6_28 (pc := 8) rfl dX6_mostGain_8 ?_
  refine T_vm (fun m2 em2 => ?_)
  refine J_aload_n (pc := 11) dX6_mostGain_11 rfl rfl rfl ?_
  refine J_aload_n (pc := 12) dX6_mostGain_12 rfl rfl rfl ?_
  refine J_iconst (pc := 13) dX6_mostGain_13 ?_
  refine J_iconst (pc := 14) dX6_mostGain_14 ?_
  refine T_callVU (pc := 15) (As := [.ref 6, .int (iI 0), .int (iI 0)]) (k := 22) (st := []) ok_yX6_seekMost lm_X6_45 dX6_mostGain_15 (by decide) rfl rfl (by decide) (Nat.le_of_ble_eq_true rfl) (m_X6_seekMost 9 m2 0 0) (fun _u m3 em3 => ?_)
  refine J_aload_n (pc := 18) dX6_mostGain_18 rfl rfl rfl ?_
  refine tg_X6_28 (pc := 19) rfl dX6_mostGain_19 ?_
  exact T_retI (pc := 22) rfl dX6_mostGain_22
def f_X5_take (m0 : Mem) (t : Nat) (a0 : Nat) (n0 : Nat) (p1 : Int) : Option (Unit × Mem) := ckc 0 0 p1 n0 40 (vm (cpy m0 a0 (t + 1) (w32 0).toNat (w32 0).toNat (w32 p1).toNat) fun m1 => vm (wr m1 t 1 p1) fun m2 => some ((), m2))
set_option maxRecDepth 40000 in
theorem m_X5_take {l : Launch} {G : qG} (m0 : Mem) (t : Nat) (a0 : Nat) (n0 : Nat) (p1 : Int) (ht : oRow t) (ha0 : a0 < qN) (hs0 : shp a0 = .inr (.inl (0, n0))) : qM l G 1 yX5_take cX5_take 3 none [.ref t, .ref a0, .int (iI p1)] (lay m0) (lf eU (f_X5_take m0 t a0 n0 p1)) := by
  refine qM_of (L := [some (.ref t), some (.ref a0), some (.int (iI p1))]) (by decide +kernel) (Nat.le_of_ble_eq_true rfl) rfl ?_
  unfold f_X5_take
  refine J_aload_n (pc := 0) dX5_take_0 rfl rfl rfl ?_
  refine J_iconst (pc := 1) dX5_take_1 ?_
  refine J_aload_n (pc := 2) dX5_take_2 rfl rfl rfl ?_
  refine tg_X5_9 (pc := 3) ht rfl dX5_take_3 ?_
  refine J_iconst (pc := 6) dX5_take_6 ?_
  refine J_iload_n (pc := 7) dX5_take_7 rfl rfl ?_
  refine T_copy (pc := 8) (by decide) lm_X5_25 (Nat.le_of_ble_eq_true rfl) ha0 hs0 (oRow_l1 ht) (oRow_a1 ht) dX5_take_8 ?_
  refine T_vm (fun m1 em1 => ?_)
  refine J_aload_n (pc := 11) dX5_take_11 rfl rfl rfl ?_
  refine J_iload_n (pc := 12) dX5_take_12 rfl rfl ?_
  refine tp_X5_15 (pc := 13) ht rfl dX5_take_13 ?_
  refine T_vm (fun m2 em2 => ?_)
  exact T_retV (pc := 16) rfl dX5_take_16
def f_X9_best (m0 : Mem) (p0 : Int) (p1 : Int) : Option (Int × Mem) := if w32 p0 < 0 then (some ((-1), m0)) else (if w32 3 < w32 p0 then (some ((-1), m0)) else (bd (f_X9_isRow m0 p1) fun r4 m3 => if w32 r4 = 0 then (some ((-1), m3)) else (if w32 (m3 6 6) = 0 then (some ((-4), m3)) else (bd (f_X6_mostGain m3 p0) fun r8 m7 => ck p1 6 (bd (f_X5_take m7 (38 + 2 * (w32 p1).toNat) 25 3 p0) fun _u m10 => some (r8, m10))))))
set_option maxRecDepth 40000 in
theorem m_X9_best {l : Launch} {G : qG} (m0 : Mem) (p0 : Int) (p1 : Int) : qM l G 17 yX9_best cX9_best 4 (some .int) [.ref 0, .int (iI p0), .int (iI p1)] (lay m0) (lf eI (f_X9_best m0 p0 p1)) := by
  refine qM_of (L := [some (.ref 0), some (.int (iI p0)), some (.int (iI p1)), none]) (by decide +kernel) (Nat.le_of_ble_eq_true rfl) rfl ?_
  unfold f_X9_best
  refine J_iload_n (pc := 0) dX9_best_0 rfl rfl ?_
  refine T_if_lt (pc := 1) (tgt := 16) dX9_best_1 (by decide) (fun h1 => ?_) (fun h1 => ?_)
  · refine J_iconst (pc := 16) dX9_best_16 ?_
    exact T_retI (pc := 17) rfl dX9_best_17
  · refine J_iload_n (pc := 4) dX9_best_4 rfl rfl ?_
    refine J_iconst (pc := 5) dX9_best_5 ?_
    refine T_icmp_gt (pc := 6) (tgt := 16) dX9_best_6 (by decide) (fun h2 => ?_) (fun h2 => ?_)
    · refine J_iconst (pc := 16) dX9_best_16 ?_
      exact T_retI (pc := 17) rfl dX9_best_17
    · refine J_iload_n (pc := 9) dX9_best_9 rfl rfl ?_
      refine T_callSI (pc := 10) (As := [.int (iI p1)]) (st := []) ok_yX9_isRow lm_X9_100 dX9_best_10 (by decide) (Nat.le_of_ble_eq_true rfl) (m_X9_isRow m0 p1) (fun r4 m3 em3 => ?_)
      refine T_if_ne (pc := 13) (tgt := 18) dX9_best_13 (by decide) (fun h5 => ?_) (fun h5 => ?_)
      · refine J_aload_n (pc := 18) dX9_best_18 rfl rfl rfl ?_
        refine tg_X9_31 (pc := 19) rfl dX9_best_19 ?_
        refine tg_X9_156 (pc := 22) rfl dX9_best_22 ?_
        refine T_if_ne (pc := 25) (tgt := 31) dX9_best_25 (by decide) (fun h6 => ?_) (fun h6 => ?_)
        · refine J_aload_n (pc := 31) dX9_best_31 rfl rfl rfl ?_
          refine tg_X9_63 (pc := 32) rfl dX9_best_32 ?_
          refine J_aload_n (pc := 35) dX9_best_35 rfl rfl rfl ?_
          refine tg_X9_31 (pc := 36) rfl dX9_best_36 ?_
          refine J_aload_n (pc := 39) dX9_best_39 rfl rfl rfl ?_
          refine tg_X9_38 (pc := 40) rfl dX9_best_40 ?_
          refine J_iload_n (pc := 43) dX9_best_43 rfl rfl ?_
          refine T_callVI (pc := 44) (As := [.ref 6, .ref 13, .int (iI p0)]) (k := 22) (st := []) ok_yX6_mostGain lm_X9_236 dX9_best_44 (by decide) rfl rfl (by decide) (Nat.le_of_ble_eq_true rfl) (m_X6_mostGain m3 p0) (fun r8 m7 em7 => ?_)
          refine J_istore_n (pc := 47) (L' := [some (.ref 0), some (.int (iI p0)), some (.int (iI p1)), some (.int (iI r8))]) dX9_best_47 rfl (by decide) rfl rfl ?_
          refine J_aload_n (pc := 48) dX9_best_48 rfl rfl rfl ?_
          refine tg_X9_11 (pc := 49) rfl dX9_best_49 ?_
          refine J_iload_n (pc := 52) dX9_best_52 rfl rfl ?_
          refine T_aaload (pc := 53) (by decide) rfl rfl dX9_best_53 (fun h9 => ?_)
          refine J_aload_n (pc := 54) dX9_best_54 rfl rfl rfl ?_
          refine tg_X9_63 (pc := 55) rfl dX9_best_55 ?_
          refine tg_X9_240 (pc := 58) rfl dX9_best_58 ?_
          refine J_iload_n (pc := 61) dX9_best_61 rfl rfl ?_
          refine T_callVU (pc := 62) (As := [.ref 25, .int (iI p0)]) (k := (38 + 2 * (w32 p1).toNat)) (st := []) ok_yX5_take lm_X9_243 dX9_best_62 (oRow_l (oRow_e h9)) (oRow_o (oRow_e h9)) rfl (by decide) (Nat.le_of_ble_eq_true rfl) (m_X5_take m7 (38 + 2 * (w32 p1).toNat) 25 3 p0 (oRow_e h9) (by decide) rfl) (fun _u m10 em10 => ?_)
          refine J_iload_n (pc := 65) dX9_best_65 rfl rfl ?_
          exact T_retI (pc := 66) rfl dX9_best_66
        · refine J_bipush (pc := 28) dX9_best_28 (by decide) (by decide) ?_
          exact T_retI (pc := 30) rfl dX9_best_30
      · refine J_iconst (pc := 16) dX9_best_16 ?_
        exact T_retI (pc := 17) rfl dX9_best_17
def f_X6_seekSlowest_L59 (R : Mem → Int → Int → Option (Unit × Mem)) (p1 : Int) (x9 : Int) : Nat → Int → Mem → Option (Unit × Mem)
  | 0, _, _ => none
  | u + 1, i6, mu59 => if w32 x9 < w32 i6 then (some ((), mu59)) else (jn (κ := Mem → Option (Unit × Mem)) (fun m12 => f_X6_seekSlowest_L59 R p1 x9 u (i6 + 1) m12) fun k11 => if w32 (zand i6 (zxor x9 (-1))) = 0 then (bd (f_X6_step mu59 p1 i6) fun _u m14 => bd (f_X1_minuteBehind m14 (26 + 2 * (w32 p1).toNat) i6) fun r16 m15 => bd (R m15 (p1 + 1) r16) fun _u m17 => k11 m17) else (k11 mu59))
set_option maxRecDepth 40000 in
theorem j_X6_seekSlowest_L59 {l : Launch} {G : qG} {R : Mem → Int → Int → Option (Unit × Mem)} {p1 : Int} {x9 : Int} {d : Nat} (hd0 : 6 ≤ d) (hR : ∀ (m : Mem) (p1 : Int) (p2 : Int), qM l G d yX6_seekSlowest cX6_seekSlowest 7 none [.ref 22, .ref 6, .int (iI p1), .int (iI p2)] (lay m) (lf eU (R m p1 p2))) (h7 : 0 ≤ w32 p1 ∧ w32 p1 < 3) : ∀ (u : Nat) (i6 : Int) (mu59 : Mem), qJ l G yX6_seekSlowest cX6_seekSlowest 7 none (d + 1) 59 [some (.ref 22), some (.ref 6), some (.int (iI p1)), none, some (.ref (26 + 2 * (w32 p1).toNat)), some (.int (iI x9)), some (.int (iI i6))] [] (lay mu59) (lf eU (f_X6_seekSlowest_L59 R p1 x9 u i6 mu59)) := by
  intro u
  induction u with
  | zero => intro _ mu59; exact T_none
  | succ u ih =>
    intro i6 mu59
    rw [f_X6_seekSlowest_L59]
    refine J_iload (pc := 59) dX6_seekSlowest_59 rfl ?_
    refine J_iload (pc := 61) dX6_seekSlowest_61 rfl ?_
    refine T_icmp_gt (pc := 63) (tgt := 106) dX6_seekSlowest_63 (by decide) (fun h10 => ?_) (fun h10 => ?_)
    · exact T_retV (pc := 106) rfl dX6_seekSlowest_106
    · refine J_iload (pc := 66) dX6_seekSlowest_66 rfl ?_
      refine J_iload (pc := 68) dX6_seekSlowest_68 rfl ?_
      refine J_iconst (pc := 70) dX6_seekSlowest_70 ?_
      refine J_ixor (pc := 71) dX6_seekSlowest_71 ?_
      refine J_iand (pc := 72) dX6_seekSlowest_72 ?_
      refine T_jn (κ := Mem → Option (Unit × Mem)) (fun k => ∀ (m12 : Mem), qJ l G yX6_seekSlowest cX6_seekSlowest 7 none (d + 1) 100 [some (.ref 22), some (.ref 6), some (.int (iI p1)), none, some (.ref (26 + 2 * (w32 p1).toNat)), some (.int (iI x9)), some (.int (iI i6))] [] (lay m12) (lf eU (k m12))) ?_ (fun k11 hk11 => ?_)
      · intro m12
        refine J_iinc (pc := 100) (L' := [some (.ref 22), some (.ref 6), some (.int (iI p1)), none, some (.ref (26 + 2 * (w32 p1).toNat)), some (.int (iI x9)), some (.int (iI (i6 + 1)))]) dX6_seekSlowest_100 rfl (by decide) rfl rfl ?_
        refine J_goto (pc := 103) (tgt := 59) dX6_seekSlowest_103 (by decide) ?_
        exact ih (i6 + 1) m12
      · refine T_if_ne (pc := 73) (tgt := 100) dX6_seekSlowest_73 (by decide) (fun h13 => ?_) (fun h13 => ?_)
        · exact hk11  mu59
        · refine J_aload_n (pc := 76) dX6_seekSlowest_76 rfl rfl rfl ?_
          refine J_aload_n (pc := 77) dX6_seekSlowest_77 rfl rfl rfl ?_
          refine J_iload_n (pc := 78) dX6_seekSlowest_78 rfl rfl ?_
          refine J_iload (pc := 79) dX6_seekSlowest_79 rfl ?_
          refine T_callVU (pc := 81) (As := [.ref 6, .int (iI p1), .int (iI i6)]) (k := 22) (st := []) ok_yX6_step lm_X6_69 dX6_seekSlowest_81 (by decide) rfl rfl (by omega) (Nat.le_of_ble_eq_true rfl) (m_X6_step mu59 p1 i6) (fun _u m14 em14 => ?_)
          refine J_aload_n (pc := 84) dX6_seekSlowest_84 rfl rfl rfl ?_
          refine J_aload_n (pc := 85) dX6_seekSlowest_85 rfl rfl rfl ?_
          refine J_iload_n (pc := 86) dX6_seekSlowest_86 rfl rfl ?_
          refine J_iconst (pc := 87) dX6_seekSlowest_87 ?_
          refine J_iadd (pc := 88) dX6_seekSlowest_88 ?_
          refine J_aload (pc := 89) dX6_seekSlowest_89 rfl rfl ?_
          refine J_aload_n (pc := 91) dX6_seekSlowest_91 rfl rfl rfl ?_
          refine J_iload (pc := 92) dX6_seekSlowest_92 rfl ?_
          refine T_callVI (pc := 94) (As := [.ref 6, .int (iI i6)]) (k := (26 + 2 * (w32 p1).toNat)) (st := [.int (iI (p1 + 1)), .ref 6, .ref 22]) ok_yX1_minuteBehind lm_X6_78 dX6_seekSlowest_94 (oDay_l (oDay_e h7)) (oDay_o (oDay_e h7)) rfl (by omega) (Nat.le_of_ble_eq_true rfl) (m_X1_minuteBehind m14 (26 + 2 * (w32 p1).toNat) i6 (oDay_e h7)) (fun r16 m15 em15 => ?_)
          refine T_callVU (pc := 97) (As := [.ref 6, .int (iI (p1 + 1)), .int (iI r16)]) (k := 22) (st := []) ok_yX6_seekSlowest lm_X6_72 dX6_seekSlowest_97 (by decide) rfl rfl (Nat.lt_succ_self _) (Nat.le_of_ble_eq_true rfl) (hR m15 (p1 + 1) r16) (fun _u m17 em17 => ?_)
          exact hk11  m17
def f_X6_seekSlowest_B (R : Mem → Int → Int → Option (Unit × Mem)) (m0 : Mem) (p1 : Int) (p2 : Int) : Option (Unit × Mem) := jn (κ := Mem → Option (Unit × Mem)) (fun m2 => if w32 p2 < w32 (m2 22 4) then (bd (f_X6_setFirst m2 p2) fun _u m4 => some ((), m4)) else (some ((), m2))) fun k1 => if w32 p1 < w32 (m0 22 3) then (if w32 p1 < w32 3 then (ck p1 3 (bd (f_X1_look m0 (26 + 2 * (w32 p1).toNat)) fun _u m8 => vl (zand (m8 (26 + 2 * (w32 p1).toNat) 1) (zxor (m8 (26 + 2 * (w32 p1).toNat) 2) (-1))) fun x9 => f_X6_seekSlowest_L59 R p1 x9 100000 0 m8)) else (k1 m0)) else (k1 m0)
def f_X6_seekSlowest : Nat → Mem → Int → Int → Option (Unit × Mem)
  | 0 => fun _ _ _ => none
  | u + 1 => f_X6_seekSlowest_B (f_X6_seekSlowest u)
set_option maxRecDepth 40000 in
theorem b_X6_seekSlowest {l : Launch} {G : qG} {d : Nat} {R : Mem → Int → Int → Option (Unit × Mem)} (hd0 : 6 ≤ d) (hR : ∀ (m : Mem) (p1 : Int) (p2 : Int), qM l G d yX6_seekSlowest cX6_seekSlowest 7 none [.ref 22, .ref 6, .int (iI p1), .int (iI p2)] (lay m) (lf eU (R m p1 p2))) (m0 : Mem) (p1 : Int) (p2 : Int) : qM l G (d + 1) yX6_seekSlowest cX6_seekSlowest 7 none [.ref 22, .ref 6, .int (iI p1), .int (iI p2)] (lay m0) (lf eU (f_X6_seekSlowest_B R m0 p1 p2)) := by
  refine qM_of (L := [some (.ref 22), some (.ref 6), some (.int (iI p1)), some (.int (iI p2)), none, none, none]) (by decide +kernel) (Nat.le_of_ble_eq_true rfl) rfl ?_
  unfold f_X6_seekSlowest_B
  refine J_iload_n (pc := 0) dX6_seekSlowest_0 rfl rfl ?_
  refine J_aload_n (pc := 1) dX6_seekSlowest_1 rfl rfl rfl ?_
  refine tg_X6_24 (pc := 2) rfl dX6_seekSlowest_2 ?_
  refine T_jn (κ := Mem → Option (Unit × Mem)) (fun k => ∀ (m2 : Mem), qJ l G yX6_seekSlowest cX6_seekSlowest 7 none (d + 1) 13 [some (.ref 22), none, none, some (.int (iI p2)), none, none, none] [] (lay m2) (lf eU (k m2))) ?_ (fun k1 hk1 => ?_)
  · intro m2
    refine J_iload_n (pc := 13) dX6_seekSlowest_13 rfl rfl ?_
    refine J_aload_n (pc := 14) dX6_seekSlowest_14 rfl rfl rfl ?_
    refine tg_X6_28 (pc := 15) rfl dX6_seekSlowest_15 ?_
    refine T_icmp_ge (pc := 18) (tgt := 26) dX6_seekSlowest_18 (by decide) (fun h3 => ?_) (fun h3 => ?_)
    · exact T_retV (pc := 26) rfl dX6_seekSlowest_26
    · refine J_aload_n (pc := 21) dX6_seekSlowest_21 rfl rfl rfl ?_
      refine J_iload_n (pc := 22) dX6_seekSlowest_22 rfl rfl ?_
      refine T_callVU (pc := 23) (As := [.int (iI p2)]) (k := 22) (st := []) ok_yX6_setFirst lm_X6_49 dX6_seekSlowest_23 (by decide) rfl rfl (by omega) (Nat.le_of_ble_eq_true rfl) (m_X6_setFirst m2 p2) (fun _u m4 em4 => ?_)
      exact T_retV (pc := 26) rfl dX6_seekSlowest_26
  · refine T_icmp_ge (pc := 5) (tgt := 13) dX6_seekSlowest_5 (by decide) (fun h5 => ?_) (fun h5 => ?_)
    · refine J_dropf (pc := 13) (L' := [some (.ref 22), none, none, some (.int (iI p2)), none, none, none]) [true, false, false, true, false, false, false] rfl ?_
      exact hk1  m0
    · refine J_iload_n (pc := 8) dX6_seekSlowest_8 rfl rfl ?_
      refine J_iconst (pc := 9) dX6_seekSlowest_9 ?_
      refine T_icmp_lt (pc := 10) (tgt := 27) dX6_seekSlowest_10 (by decide) (fun h6 => ?_) (fun h6 => ?_)
      · refine J_aload_n (pc := 27) dX6_seekSlowest_27 rfl rfl rfl ?_
        refine tg_X6_11 (pc := 28) rfl dX6_seekSlowest_28 ?_
        refine J_iload_n (pc := 31) dX6_seekSlowest_31 rfl rfl ?_
        refine T_aaload (pc := 32) (by decide) rfl rfl dX6_seekSlowest_32 (fun h7 => ?_)
        refine J_astore (pc := 33) (L' := [some (.ref 22), some (.ref 6), some (.int (iI p1)), some (.int (iI p2)), some (.ref (26 + 2 * (w32 p1).toNat)), none, none]) dX6_seekSlowest_33 (by decide) rfl rfl ?_
        refine J_aload (pc := 35) dX6_seekSlowest_35 rfl rfl ?_
        refine J_aload_n (pc := 37) dX6_seekSlowest_37 rfl rfl rfl ?_
        refine T_callVU (pc := 38) (As := [.ref 6]) (k := (26 + 2 * (w32 p1).toNat)) (st := []) ok_yX1_look lm_X6_53 dX6_seekSlowest_38 (oDay_l (oDay_e h7)) (oDay_o (oDay_e h7)) rfl (by omega) (Nat.le_of_ble_eq_true rfl) (m_X1_look m0 (26 + 2 * (w32 p1).toNat) (oDay_e h7)) (fun _u m8 em8 => ?_)
        refine J_aload (pc := 41) dX6_seekSlowest_41 rfl rfl ?_
        refine tg_X6_57 (pc := 43) (oDay_e h7) rfl dX6_seekSlowest_43 ?_
        refine J_aload (pc := 46) dX6_seekSlowest_46 rfl rfl ?_
        refine tg_X6_75 (pc := 48) (oDay_e h7) rfl dX6_seekSlowest_48 ?_
        refine J_iconst (pc := 51) dX6_seekSlowest_51 ?_
        refine J_ixor (pc := 52) dX6_seekSlowest_52 ?_
        refine J_iand (pc := 53) dX6_seekSlowest_53 ?_
        refine T_vlI (pc := 54) (fun x9 ex9 => ?_)
        refine J_istore (pc := 54) (L' := [some (.ref 22), some (.ref 6), some (.int (iI p1)), some (.int (iI p2)), some (.ref (26 + 2 * (w32 p1).toNat)), some (.int (iI x9)), none]) dX6_seekSlowest_54 (by decide) rfl rfl ?_
        refine J_iconst (pc := 56) dX6_seekSlowest_56 ?_
        refine J_istore (pc := 57) (L' := [some (.ref 22), some (.ref 6), some (.int (iI p1)), some (.int (iI p2)), some (.ref (26 + 2 * (w32 p1).toNat)), some (.int (iI x9)), some (.int (iI 0))]) dX6_seekSlowest_57 (by decide) rfl rfl ?_
        refine J_dropf (pc := 59) (L' := [some (.ref 22), some (.ref 6), some (.int (iI p1)), none, some (.ref (26 + 2 * (w32 p1).toNat)), some (.int (iI x9)), some (.int (iI 0))]) [true, true, true, false, true, true, true] rfl ?_
        refine j_X6_seekSlowest_L59 hd0 hR h7 100000 0 m8
      · refine J_dropf (pc := 13) (L' := [some (.ref 22), none, none, some (.int (iI p2)), none, none, none]) [true, false, false, true, false, false, false] rfl ?_
        exact hk1  m0
theorem m_X6_seekSlowest {l : Launch} {G : qG} : ∀ (u : Nat) (m0 : Mem) (p1 : Int) (p2 : Int), qM l G (6 + u) yX6_seekSlowest cX6_seekSlowest 7 none [.ref 22, .ref 6, .int (iI p1), .int (iI p2)] (lay m0) (lf eU (f_X6_seekSlowest u m0 p1 p2)) := by
  intro u
  induction u with
  | zero => intro m0 p1 p2 r B h; cases h
  | succ u ih => intro m0 p1 p2; exact b_X6_seekSlowest (by omega) ih m0 p1 p2
def f_X6_leastMinute (m0 : Mem) (p2 : Int) : Option (Int × Mem) := bd (f_X6_begin m0 p2) fun _u m1 => vm (wr m1 22 4 1000) fun m2 => ck 0 16 (bd (f_X6_seekSlowest 9 m2 0 (m2 (13 + 1) (w32 0).toNat)) fun _u m4 => some (m4 22 4, m4))
set_option maxRecDepth 40000 in
theorem m_X6_leastMinute {l : Launch} {G : qG} (m0 : Mem) (p2 : Int) : qM l G 16 yX6_leastMinute cX6_leastMinute 4 (some .int) [.ref 22, .ref 6, .ref 13, .int (iI p2)] (lay m0) (lf eI (f_X6_leastMinute m0 p2)) := by
  refine qM_of (L := [some (.ref 22), some (.ref 6), some (.ref 13), some (.int (iI p2))]) (by decide +kernel) (Nat.le_of_ble_eq_true rfl) rfl ?_
  unfold f_X6_leastMinute
  refine J_aload_n (pc := 0) dX6_leastMinute_0 rfl rfl rfl ?_
  refine J_aload_n (pc := 1) dX6_leastMinute_1 rfl rfl rfl ?_
  refine J_iload_n (pc := 2) dX6_leastMinute_2 rfl rfl ?_
  refine T_callVU (pc := 3) (As := [.ref 13, .int (iI p2)]) (k := 22) (st := []) ok_yX6_begin lm_X6_41 dX6_leastMinute_3 (by decide) rfl rfl (by decide) (Nat.le_of_ble_eq_true rfl) (m_X6_begin m0 p2) (fun _u m1 em1 => ?_)
  refine J_aload_n (pc := 6) dX6_leastMinute_6 rfl rfl rfl ?_
  refine J_sipush (pc := 7) dX6_leastMinute_7 (by decide) (by decide) ?_
  refine tp_X6_28 (pc := 10) rfl dX6_leastMinute_10 ?_
  refine T_vm (fun m2 em2 => ?_)
  refine J_aload_n (pc := 13) dX6_leastMinute_13 rfl rfl rfl ?_
  refine J_aload_n (pc := 14) dX6_leastMinute_14 rfl rfl rfl ?_
  refine J_iconst (pc := 15) dX6_leastMinute_15 ?_
  refine J_aload_n (pc := 16) dX6_leastMinute_16 rfl rfl rfl ?_
  refine tg_X6_60 (pc := 17) (by unfold oDay; decide) rfl dX6_leastMinute_17 ?_
  refine J_iconst (pc := 20) dX6_leastMinute_20 ?_
  refine T_iaload (pc := 21) (oDay_l1 (by unfold oDay; decide)) (oDay_a1 (by unfold oDay; decide)) dX6_leastMinute_21 (fun h3 => ?_)
  refine T_callVU (pc := 22) (As := [.ref 6, .int (iI 0), .int (iI (m2 (13 + 1) (w32 0).toNat))]) (k := 22) (st := []) ok_yX6_seekSlowest lm_X6_72 dX6_leastMinute_22 (by decide) rfl rfl (by decide) (Nat.le_of_ble_eq_true rfl) (m_X6_seekSlowest 9 m2 0 (m2 (13 + 1) (w32 0).toNat)) (fun _u m4 em4 => ?_)
  refine J_aload_n (pc := 25) dX6_leastMinute_25 rfl rfl rfl ?_
  refine tg_X6_28 (pc := 26) rfl dX6_leastMinute_26 ?_
  exact T_retI (pc := 29) rfl dX6_leastMinute_29
def f_X9_slowest (m0 : Mem) (p0 : Int) (p1 : Int) : Option (Int × Mem) := if w32 p0 < 0 then (some ((-1), m0)) else (if w32 3 < w32 p0 then (some ((-1), m0)) else (bd (f_X9_isRow m0 p1) fun r4 m3 => if w32 r4 = 0 then (some ((-1), m3)) else (if w32 (m3 6 6) = 0 then (some ((-4), m3)) else (bd (f_X6_leastMinute m3 p0) fun r8 m7 => ck p1 6 (bd (f_X5_take m7 (38 + 2 * (w32 p1).toNat) 25 3 p0) fun _u m10 => some (r8, m10))))))
set_option maxRecDepth 40000 in
theorem m_X9_slowest {l : Launch} {G : qG} (m0 : Mem) (p0 : Int) (p1 : Int) : qM l G 17 yX9_slowest cX9_slowest 4 (some .int) [.ref 0, .int (iI p0), .int (iI p1)] (lay m0) (lf eI (f_X9_slowest m0 p0 p1)) := by
  refine qM_of (L := [some (.ref 0), some (.int (iI p0)), some (.int (iI p1)), none]) (by decide +kernel) (Nat.le_of_ble_eq_true rfl) rfl ?_
  unfold f_X9_slowest
  refine J_iload_n (pc := 0) dX9_slowest_0 rfl rfl ?_
  refine T_if_lt (pc := 1) (tgt := 16) dX9_slowest_1 (by decide) (fun h1 => ?_) (fun h1 => ?_)
  · refine J_iconst (pc := 16) dX9_slowest_16 ?_
    exact T_retI (pc := 17) rfl dX9_slowest_17
  · refine J_iload_n (pc := 4) dX9_slowest_4 rfl rfl ?_
    refine J_iconst (pc := 5) dX9_slowest_5 ?_
    refine T_icmp_gt (pc := 6) (tgt := 16) dX9_slowest_6 (by decide) (fun h2 => ?_) (fun h2 => ?_)
    · refine J_iconst (pc := 16) dX9_slowest_16 ?_
      exact T_retI (pc := 17) rfl dX9_slowest_17
    · refine J_iload_n (pc := 9) dX9_slowest_9 rfl rfl ?_
      refine T_callSI (pc := 10) (As := [.int (iI p1)]) (st := []) ok_yX9_isRow lm_X9_100 dX9_slowest_10 (by decide) (Nat.le_of_ble_eq_true rfl) (m_X9_isRow m0 p1) (fun r4 m3 em3 => ?_)
      refine T_if_ne (pc := 13) (tgt := 18) dX9_slowest_13 (by decide) (fun h5 => ?_) (fun h5 => ?_)
      · refine J_aload_n (pc := 18) dX9_slowest_18 rfl rfl rfl ?_
        refine tg_X9_31 (pc := 19) rfl dX9_slowest_19 ?_
        refine tg_X9_156 (pc := 22) rfl dX9_slowest_22 ?_
        refine T_if_ne (pc := 25) (tgt := 31) dX9_slowest_25 (by decide) (fun h6 => ?_) (fun h6 => ?_)
        · refine J_aload_n (pc := 31) dX9_slowest_31 rfl rfl rfl ?_
          refine tg_X9_63 (pc := 32) rfl dX9_slowest_32 ?_
          refine J_aload_n (pc := 35) dX9_slowest_35 rfl rfl rfl ?_
          refine tg_X9_31 (pc := 36) rfl dX9_slowest_36 ?_
          refine J_aload_n (pc := 39) dX9_slowest_39 rfl rfl rfl ?_
          refine tg_X9_38 (pc := 40) rfl dX9_slowest_40 ?_
          refine J_iload_n (pc := 43) dX9_slowest_43 rfl rfl ?_
          refine T_callVI (pc := 44) (As := [.ref 6, .ref 13, .int (iI p0)]) (k := 22) (st := []) ok_yX6_leastMinute lm_X9_246 dX9_slowest_44 (by decide) rfl rfl (by decide) (Nat.le_of_ble_eq_true rfl) (m_X6_leastMinute m3 p0) (fun r8 m7 em7 => ?_)
          refine J_istore_n (pc := 47) (L' := [some (.ref 0), some (.int (iI p0)), some (.int (iI p1)), some (.int (iI r8))]) dX9_slowest_47 rfl (by decide) rfl rfl ?_
          refine J_aload_n (pc := 48) dX9_slowest_48 rfl rfl rfl ?_
          refine tg_X9_11 (pc := 49) rfl dX9_slowest_49 ?_
          refine J_iload_n (pc := 52) dX9_slowest_52 rfl rfl ?_
          refine T_aaload (pc := 53) (by decide) rfl rfl dX9_slowest_53 (fun h9 => ?_)
          refine J_aload_n (pc := 54) dX9_slowest_54 rfl rfl rfl ?_
          refine tg_X9_63 (pc := 55) rfl dX9_slowest_55 ?_
          refine tg_X9_240 (pc := 58) rfl dX9_slowest_58 ?_
          refine J_iload_n (pc := 61) dX9_slowest_61 rfl rfl ?_
          refine T_callVU (pc := 62) (As := [.ref 25, .int (iI p0)]) (k := (38 + 2 * (w32 p1).toNat)) (st := []) ok_yX5_take lm_X9_243 dX9_slowest_62 (oRow_l (oRow_e h9)) (oRow_o (oRow_e h9)) rfl (by decide) (Nat.le_of_ble_eq_true rfl) (m_X5_take m7 (38 + 2 * (w32 p1).toNat) 25 3 p0 (oRow_e h9) (by decide) rfl) (fun _u m10 em10 => ?_)
          refine J_iload_n (pc := 65) dX9_slowest_65 rfl rfl ?_
          exact T_retI (pc := 66) rfl dX9_slowest_66
        · refine J_bipush (pc := 28) dX9_slowest_28 (by decide) (by decide) ?_
          exact T_retI (pc := 30) rfl dX9_slowest_30
      · refine J_iconst (pc := 16) dX9_slowest_16 ?_
        exact T_retI (pc := 17) rfl dX9_slowest_17
def f_X3_hoursTillDown_L11 (p2 : Int) : Nat → Int → Mem → Option (Int × Mem)
  | 0, _, _ => none
  | u + 1, i4, mu11 => if w32 i4 < w32 48 then (bd (f_X1_isDown mu11 20) fun r4 m3 => if w32 r4 = 0 then (bd (f_X1_goOn m3 20 p2) fun r7 m6 => f_X3_hoursTillDown_L11 p2 u (i4 + 1) m6) else (some (i4, m3))) else (some (i4, mu11))
set_option maxRecDepth 40000 in
theorem j_X3_hoursTillDown_L11 {l : Launch} {G : qG} {p2 : Int} : ∀ (u : Nat) (i4 : Int) (mu11 : Mem), qJ l G yX3_hoursTillDown cX3_hoursTillDown 5 (some .int) 5 11 [some (.ref 19), some (.ref 6), none, some (.int (iI p2)), some (.int (iI i4))] [] (lay mu11) (lf eI (f_X3_hoursTillDown_L11 p2 u i4 mu11)) := by
  intro u
  induction u with
  | zero => intro _ mu11; exact T_none
  | succ u ih =>
    intro i4 mu11
    rw [f_X3_hoursTillDown_L11]
    refine J_iload (pc := 11) dX3_hoursTillDown_11 rfl ?_
    refine J_bipush (pc := 13) dX3_hoursTillDown_13 (by decide) (by decide) ?_
    refine T_icmp_ge (pc := 15) (tgt := 44) dX3_hoursTillDown_15 (by decide) (fun h2 => ?_) (fun h2 => ?_)
    · refine J_iload (pc := 44) dX3_hoursTillDown_44 rfl ?_
      exact T_retI (pc := 46) rfl dX3_hoursTillDown_46
    · refine J_aload_n (pc := 18) dX3_hoursTillDown_18 rfl rfl rfl ?_
      refine tg_X3_12 (pc := 19) rfl dX3_hoursTillDown_19 ?_
      refine T_callVI (pc := 22) (As := []) (k := 20) (st := []) ok_yX1_isDown lm_X3_67 dX3_hoursTillDown_22 (oDay_l (by unfold oDay; decide)) (oDay_o (by unfold oDay; decide)) rfl (by decide) (Nat.le_of_ble_eq_true rfl) (m_X1_isDown mu11 20 (by unfold oDay; decide)) (fun r4 m3 em3 => ?_)
      refine T_if_ne (pc := 25) (tgt := 44) dX3_hoursTillDown_25 (by decide) (fun h5 => ?_) (fun h5 => ?_)
      · refine J_iload (pc := 44) dX3_hoursTillDown_44 rfl ?_
        exact T_retI (pc := 46) rfl dX3_hoursTillDown_46
      · refine J_aload_n (pc := 28) dX3_hoursTillDown_28 rfl rfl rfl ?_
        refine tg_X3_12 (pc := 29) rfl dX3_hoursTillDown_29 ?_
        refine J_aload_n (pc := 32) dX3_hoursTillDown_32 rfl rfl rfl ?_
        refine J_iload_n (pc := 33) dX3_hoursTillDown_33 rfl rfl ?_
        refine T_callVI (pc := 34) (As := [.ref 6, .int (iI p2)]) (k := 20) (st := []) ok_yX1_goOn lm_X3_44 dX3_hoursTillDown_34 (oDay_l (by unfold oDay; decide)) (oDay_o (by unfold oDay; decide)) rfl (by decide) (Nat.le_of_ble_eq_true rfl) (m_X1_goOn m3 20 p2 (by unfold oDay; decide)) (fun r7 m6 em6 => ?_)
        refine J_pop (pc := 37) dX3_hoursTillDown_37 rfl ?_
        refine J_iinc (pc := 38) (L' := [some (.ref 19), some (.ref 6), none, some (.int (iI p2)), some (.int (iI (i4 + 1)))]) dX3_hoursTillDown_38 rfl (by decide) rfl rfl ?_
        refine J_goto (pc := 41) (tgt := 11) dX3_hoursTillDown_41 (by decide) ?_
        exact ih (i4 + 1) m6
def f_X3_hoursTillDown (m0 : Mem) (p2 : Int) : Option (Int × Mem) := bd (f_X1_take m0 20 13) fun _u m1 => f_X3_hoursTillDown_L11 p2 100000 0 m1
set_option maxRecDepth 40000 in
theorem m_X3_hoursTillDown {l : Launch} {G : qG} (m0 : Mem) (p2 : Int) : qM l G 5 yX3_hoursTillDown cX3_hoursTillDown 5 (some .int) [.ref 19, .ref 6, .ref 13, .int (iI p2)] (lay m0) (lf eI (f_X3_hoursTillDown m0 p2)) := by
  refine qM_of (L := [some (.ref 19), some (.ref 6), some (.ref 13), some (.int (iI p2)), none]) (by decide +kernel) (Nat.le_of_ble_eq_true rfl) rfl ?_
  unfold f_X3_hoursTillDown
  refine J_aload_n (pc := 0) dX3_hoursTillDown_0 rfl rfl rfl ?_
  refine tg_X3_12 (pc := 1) rfl dX3_hoursTillDown_1 ?_
  refine J_aload_n (pc := 4) dX3_hoursTillDown_4 rfl rfl rfl ?_
  refine T_callVU (pc := 5) (As := [.ref 13]) (k := 20) (st := []) ok_yX1_take lm_X3_22 dX3_hoursTillDown_5 (oDay_l (by unfold oDay; decide)) (oDay_o (by unfold oDay; decide)) rfl (by decide) (Nat.le_of_ble_eq_true rfl) (m_X1_take m0 20 13 (by unfold oDay; decide) (by unfold oDay; decide)) (fun _u m1 em1 => ?_)
  refine J_iconst (pc := 8) dX3_hoursTillDown_8 ?_
  refine J_istore (pc := 9) (L' := [some (.ref 19), some (.ref 6), some (.ref 13), some (.int (iI p2)), some (.int (iI 0))]) dX3_hoursTillDown_9 (by decide) rfl rfl ?_
  refine J_dropf (pc := 11) (L' := [some (.ref 19), some (.ref 6), none, some (.int (iI p2)), some (.int (iI 0))]) [true, true, false, true, true] rfl ?_
  refine j_X3_hoursTillDown_L11 100000 0 m1
def f_X9_down (m0 : Mem) (p0 : Int) : Option (Int × Mem) := bd (f_X8_hasSet m0 p0) fun r2 m1 => if w32 r2 = 0 then (some ((-1), m1)) else (if w32 (m1 6 6) = 0 then (some ((-4), m1)) else (bd (f_X3_hoursTillDown m1 p0) fun r6 m5 => some (r6, m5)))
set_option maxRecDepth 40000 in
theorem m_X9_down {l : Launch} {G : qG} (m0 : Mem) (p0 : Int) : qM l G 6 yX9_down cX9_down 2 (some .int) [.ref 0, .int (iI p0)] (lay m0) (lf eI (f_X9_down m0 p0)) := by
  refine qM_of (L := [some (.ref 0), some (.int (iI p0))]) (by decide +kernel) (Nat.le_of_ble_eq_true rfl) rfl ?_
  unfold f_X9_down
  refine J_aload_n (pc := 0) dX9_down_0 rfl rfl rfl ?_
  refine tg_X9_31 (pc := 1) rfl dX9_down_1 ?_
  refine J_iload_n (pc := 4) dX9_down_4 rfl rfl ?_
  refine T_callVI (pc := 5) (As := [.int (iI p0)]) (k := 6) (st := []) ok_yX8_hasSet lm_X9_180 dX9_down_5 (by decide) rfl rfl (by decide) (Nat.le_of_ble_eq_true rfl) (m_X8_hasSet m0 p0) (fun r2 m1 em1 => ?_)
  refine T_if_ne (pc := 8) (tgt := 13) dX9_down_8 (by decide) (fun h3 => ?_) (fun h3 => ?_)
  · refine J_aload_n (pc := 13) dX9_down_13 rfl rfl rfl ?_
    refine tg_X9_31 (pc := 14) rfl dX9_down_14 ?_
    refine tg_X9_156 (pc := 17) rfl dX9_down_17 ?_
    refine T_if_ne (pc := 20) (tgt := 28) dX9_down_20 (by decide) (fun h4 => ?_) (fun h4 => ?_)
    · refine J_aload_n (pc := 28) dX9_down_28 rfl rfl rfl ?_
      refine tg_X9_56 (pc := 29) rfl dX9_down_29 ?_
      refine J_aload_n (pc := 32) dX9_down_32 rfl rfl rfl ?_
      refine tg_X9_31 (pc := 33) rfl dX9_down_33 ?_
      refine J_aload_n (pc := 36) dX9_down_36 rfl rfl rfl ?_
      refine tg_X9_38 (pc := 37) rfl dX9_down_37 ?_
      refine J_iload_n (pc := 40) dX9_down_40 rfl rfl ?_
      refine T_callVI (pc := 41) (As := [.ref 6, .ref 13, .int (iI p0)]) (k := 19) (st := []) ok_yX3_hoursTillDown lm_X9_249 dX9_down_41 (by decide) rfl rfl (by decide) (Nat.le_of_ble_eq_true rfl) (m_X3_hoursTillDown m1 p0) (fun r6 m5 em5 => ?_)
      exact T_retI (pc := 44) rfl dX9_down_44
    · refine J_bipush (pc := 23) dX9_down_23 (by decide) (by decide) ?_
      refine J_goto (pc := 25) (tgt := 44) dX9_down_25 (by decide) ?_
      exact T_retI (pc := 44) rfl dX9_down_44
  · refine J_iconst (pc := 11) dX9_down_11 ?_
    exact T_retI (pc := 12) rfl dX9_down_12
def f_X9_longest_L19 : Nat → Int → Int → Int → Mem → Option (Int × Mem)
  | 0, _, _, _, _ => none
  | u + 1, i1, i2, i3, mu19 => bd (f_X8_allCapes mu19) fun r3 m2 => if w32 r3 < w32 i3 then (vm (wr m2 0 13 i2) fun m5 => some (i1, m5)) else (bd (f_X3_hoursTillDown m2 i3) fun r7 m6 => jn (κ := Int → Int → Mem → Option (Int × Mem)) (fun x10 x11 m9 => f_X9_longest_L19 u x10 x11 (i3 + 1) m9) fun k8 => if w32 i2 < w32 r7 then (k8 i3 r7 m6) else (k8 i1 i2 m6))
set_option maxRecDepth 40000 in
theorem j_X9_longest_L19 {l : Launch} {G : qG} : ∀ (u : Nat) (i1 : Int) (i2 : Int) (i3 : Int) (mu19 : Mem), qJ l G yX9_longest cX9_longest 5 (some .int) 6 19 [some (.ref 0), some (.int (iI i1)), some (.int (iI i2)), some (.int (iI i3)), none] [] (lay mu19) (lf eI (f_X9_longest_L19 u i1 i2 i3 mu19)) := by
  intro u
  induction u with
  | zero => intro _ _ _ mu19; exact T_none
  | succ u ih =>
    intro i1 i2 i3 mu19
    rw [f_X9_longest_L19]
    refine J_iload_n (pc := 19) dX9_longest_19 rfl rfl ?_
    refine J_aload_n (pc := 20) dX9_longest_20 rfl rfl rfl ?_
    refine tg_X9_31 (pc := 21) rfl dX9_longest_21 ?_
    refine T_callVI (pc := 24) (As := []) (k := 6) (st := [.int (iI i3)]) ok_yX8_allCapes lm_X9_252 dX9_longest_24 (by decide) rfl rfl (by decide) (Nat.le_of_ble_eq_true rfl) (m_X8_allCapes mu19) (fun r3 m2 em2 => ?_)
    refine T_icmp_gt (pc := 27) (tgt := 65) dX9_longest_27 (by decide) (fun h4 => ?_) (fun h4 => ?_)
    · refine J_aload_n (pc := 65) dX9_longest_65 rfl rfl rfl ?_
      refine J_iload_n (pc := 66) dX9_longest_66 rfl rfl ?_
      refine tp_X9_85 (pc := 67) rfl dX9_longest_67 ?_
      refine T_vm (fun m5 em5 => ?_)
      refine J_iload_n (pc := 70) dX9_longest_70 rfl rfl ?_
      exact T_retI (pc := 71) rfl dX9_longest_71
    · refine J_aload_n (pc := 30) dX9_longest_30 rfl rfl rfl ?_
      refine tg_X9_56 (pc := 31) rfl dX9_longest_31 ?_
      refine J_aload_n (pc := 34) dX9_longest_34 rfl rfl rfl ?_
      refine tg_X9_31 (pc := 35) rfl dX9_longest_35 ?_
      refine J_aload_n (pc := 38) dX9_longest_38 rfl rfl rfl ?_
      refine tg_X9_38 (pc := 39) rfl dX9_longest_39 ?_
      refine J_iload_n (pc := 42) dX9_longest_42 rfl rfl ?_
      refine T_callVI (pc := 43) (As := [.ref 6, .ref 13, .int (iI i3)]) (k := 19) (st := []) ok_yX3_hoursTillDown lm_X9_249 dX9_longest_43 (by decide) rfl rfl (by decide) (Nat.le_of_ble_eq_true rfl) (m_X3_hoursTillDown m2 i3) (fun r7 m6 em6 => ?_)
      refine J_istore (pc := 46) (L' := [some (.ref 0), some (.int (iI i1)), some (.int (iI i2)), some (.int (iI i3)), some (.int (iI r7))]) dX9_longest_46 (by decide) rfl rfl ?_
      refine J_iload (pc := 48) dX9_longest_48 rfl ?_
      refine J_iload_n (pc := 50) dX9_longest_50 rfl rfl ?_
      refine T_jn (κ := Int → Int → Mem → Option (Int × Mem)) (fun k => ∀ (x10 : Int) (x11 : Int) (m9 : Mem), qJ l G yX9_longest cX9_longest 5 (some .int) 6 59 [some (.ref 0), some (.int (iI x10)), some (.int (iI x11)), some (.int (iI i3)), none] [] (lay m9) (lf eI (k x10 x11 m9))) ?_ (fun k8 hk8 => ?_)
      · intro x10 x11 m9
        refine J_iinc (pc := 59) (L' := [some (.ref 0), some (.int (iI x10)), some (.int (iI x11)), some (.int (iI (i3 + 1))), none]) dX9_longest_59 rfl (by decide) rfl rfl ?_
        refine J_goto (pc := 62) (tgt := 19) dX9_longest_62 (by decide) ?_
        exact ih x10 x11 (i3 + 1) m9
      · refine T_icmp_le (pc := 51) (tgt := 59) dX9_longest_51 (by decide) (fun h12 => ?_) (fun h12 => ?_)
        · refine J_dropf (pc := 59) (L' := [some (.ref 0), some (.int (iI i1)), some (.int (iI i2)), some (.int (iI i3)), none]) [true, true, true, true, false] rfl ?_
          exact hk8 i1 i2 m6
        · refine J_iload (pc := 54) dX9_longest_54 rfl ?_
          refine J_istore_n (pc := 56) (L' := [some (.ref 0), some (.int (iI i1)), some (.int (iI r7)), some (.int (iI i3)), some (.int (iI r7))]) dX9_longest_56 rfl (by decide) rfl rfl ?_
          refine J_iload_n (pc := 57) dX9_longest_57 rfl rfl ?_
          refine J_istore_n (pc := 58) (L' := [some (.ref 0), some (.int (iI i3)), some (.int (iI r7)), some (.int (iI i3)), some (.int (iI r7))]) dX9_longest_58 rfl (by decide) rfl rfl ?_
          refine J_dropf (pc := 59) (L' := [some (.ref 0), some (.int (iI i3)), some (.int (iI r7)), some (.int (iI i3)), none]) [true, true, true, true, false] rfl ?_
          exact hk8 i3 r7 m6
def f_X9_longest (m0 : Mem) : Option (Int × Mem) := if w32 (m0 6 6) = 0 then (some ((-4), m0)) else (f_X9_longest_L19 100000 0 (-1) 0 m0)
set_option maxRecDepth 40000 in
theorem m_X9_longest {l : Launch} {G : qG} (m0 : Mem) : qM l G 6 yX9_longest cX9_longest 5 (some .int) [.ref 0] (lay m0) (lf eI (f_X9_longest m0)) := by
  refine qM_of (L := [some (.ref 0), none, none, none, none]) (by decide +kernel) (Nat.le_of_ble_eq_true rfl) rfl ?_
  unfold f_X9_longest
  refine J_aload_n (pc := 0) dX9_longest_0 rfl rfl rfl ?_
  refine tg_X9_31 (pc := 1) rfl dX9_longest_1 ?_
  refine tg_X9_156 (pc := 4) rfl dX9_longest_4 ?_
  refine T_if_ne (pc := 7) (tgt := 13) dX9_longest_7 (by decide) (fun h1 => ?_) (fun h1 => ?_)
  · refine J_iconst (pc := 13) dX9_longest_13 ?_
    refine J_istore_n (pc := 14) (L' := [some (.ref 0), some (.int (iI 0)), none, none, none]) dX9_longest_14 rfl (by decide) rfl rfl ?_
    refine J_iconst (pc := 15) dX9_longest_15 ?_
    refine J_istore_n (pc := 16) (L' := [some (.ref 0), some (.int (iI 0)), some (.int (iI (-1))), none, none]) dX9_longest_16 rfl (by decide) rfl rfl ?_
    refine J_iconst (pc := 17) dX9_longest_17 ?_
    refine J_istore_n (pc := 18) (L' := [some (.ref 0), some (.int (iI 0)), some (.int (iI (-1))), some (.int (iI 0)), none]) dX9_longest_18 rfl (by decide) rfl rfl ?_
    refine j_X9_longest_L19 100000 0 (-1) 0 m0
  · refine J_bipush (pc := 10) dX9_longest_10 (by decide) (by decide) ?_
    exact T_retI (pc := 12) rfl dX9_longest_12
def f_X3_fewestRopes_L10 (K : Int → Int → Mem → Option (Int × Mem)) (q2 : Nat) : Nat → Int → Int → Int → Mem → Option (Int × Mem)
  | 0, _, _, _, _ => none
  | u + 1, i4, i5, i6, mu10 => bd (f_X8_allCapes mu10) fun r2 m1 => if w32 r2 < w32 i6 then (K i4 i5 m1) else (bd (f_J6_bitCount_0f7a4 m1 i6) fun r5 m4 => jn (κ := Int → Int → Mem → Option (Int × Mem)) (fun x8 x9 m7 => f_X3_fewestRopes_L10 K q2 u x8 x9 (i6 + 1) m7) fun k6 => if w32 r5 < w32 i4 then (bd (f_X3_firstLurch m4 q2 i6) fun r12 m11 => if w32 r12 = w32 (-9) then (k6 r5 i6 m11) else (k6 i4 i5 m11)) else (k6 i4 i5 m4))
set_option maxRecDepth 40000 in
theorem j_X3_fewestRopes_L10 {l : Launch} {G : qG} {K : Int → Int → Mem → Option (Int × Mem)} {q2 : Nat} (hq2 : oRow q2) (hK : ∀ (x4 : Int) (x5 : Int) (m : Mem), qJ l G yX3_fewestRopes cX3_fewestRopes 8 (some .int) 6 61 [some (.ref 19), none, none, none, some (.int (iI x4)), some (.int (iI x5)), none, none] [] (lay m) (lf eI (K x4 x5 m))) : ∀ (u : Nat) (i4 : Int) (i5 : Int) (i6 : Int) (mu10 : Mem), qJ l G yX3_fewestRopes cX3_fewestRopes 8 (some .int) 6 10 [some (.ref 19), some (.ref 6), some (.ref 13), some (.ref q2), some (.int (iI i4)), some (.int (iI i5)), some (.int (iI i6)), none] [] (lay mu10) (lf eI (f_X3_fewestRopes_L10 K q2 u i4 i5 i6 mu10)) := by
  intro u
  induction u with
  | zero => intro _ _ _ mu10; exact T_none
  | succ u ih =>
    intro i4 i5 i6 mu10
    rw [f_X3_fewestRopes_L10]
    refine J_iload (pc := 10) dX3_fewestRopes_10 rfl ?_
    refine J_aload_n (pc := 12) dX3_fewestRopes_12 rfl rfl rfl ?_
    refine T_callVI (pc := 13) (As := []) (k := 6) (st := [.int (iI i6)]) ok_yX8_allCapes lm_X3_54 dX3_fewestRopes_13 (by decide) rfl rfl (by decide) (Nat.le_of_ble_eq_true rfl) (m_X8_allCapes mu10) (fun r2 m1 em1 => ?_)
    refine T_icmp_gt (pc := 16) (tgt := 61) dX3_fewestRopes_16 (by decide) (fun h3 => ?_) (fun h3 => ?_)
    · refine J_dropf (pc := 61) (L' := [some (.ref 19), none, none, none, some (.int (iI i4)), some (.int (iI i5)), none, none]) [true, false, false, false, true, true, false, false] rfl ?_
      exact hK i4 i5 m1
    · refine J_iload (pc := 19) dX3_fewestRopes_19 rfl ?_
      refine T_callSI (pc := 21) (As := [.int (iI i6)]) (st := []) ok_yJ6_bitCount_0f7a4 lm_X3_58 dX3_fewestRopes_21 (by decide) (Nat.le_of_ble_eq_true rfl) (m_J6_bitCount_0f7a4 m1 i6) (fun r5 m4 em4 => ?_)
      refine J_istore (pc := 24) (L' := [some (.ref 19), some (.ref 6), some (.ref 13), some (.ref q2), some (.int (iI i4)), some (.int (iI i5)), some (.int (iI i6)), some (.int (iI r5))]) dX3_fewestRopes_24 (by decide) rfl rfl ?_
      refine J_iload (pc := 26) dX3_fewestRopes_26 rfl ?_
      refine J_iload (pc := 28) dX3_fewestRopes_28 rfl ?_
      refine T_jn (κ := Int → Int → Mem → Option (Int × Mem)) (fun k => ∀ (x8 : Int) (x9 : Int) (m7 : Mem), qJ l G yX3_fewestRopes cX3_fewestRopes 8 (some .int) 6 55 [some (.ref 19), some (.ref 6), some (.ref 13), some (.ref q2), some (.int (iI x8)), some (.int (iI x9)), some (.int (iI i6)), none] [] (lay m7) (lf eI (k x8 x9 m7))) ?_ (fun k6 hk6 => ?_)
      · intro x8 x9 m7
        refine J_iinc (pc := 55) (L' := [some (.ref 19), some (.ref 6), some (.ref 13), some (.ref q2), some (.int (iI x8)), some (.int (iI x9)), some (.int (iI (i6 + 1))), none]) dX3_fewestRopes_55 rfl (by decide) rfl rfl ?_
        refine J_goto (pc := 58) (tgt := 10) dX3_fewestRopes_58 (by decide) ?_
        exact ih x8 x9 (i6 + 1) m7
      · refine T_icmp_ge (pc := 30) (tgt := 55) dX3_fewestRopes_30 (by decide) (fun h10 => ?_) (fun h10 => ?_)
        · refine J_dropf (pc := 55) (L' := [some (.ref 19), some (.ref 6), some (.ref 13), some (.ref q2), some (.int (iI i4)), some (.int (iI i5)), some (.int (iI i6)), none]) [true, true, true, true, true, true, true, false] rfl ?_
          exact hk6 i4 i5 m4
        · refine J_aload_n (pc := 33) dX3_fewestRopes_33 rfl rfl rfl ?_
          refine J_aload_n (pc := 34) dX3_fewestRopes_34 rfl rfl rfl ?_
          refine J_aload_n (pc := 35) dX3_fewestRopes_35 rfl rfl rfl ?_
          refine J_aload_n (pc := 36) dX3_fewestRopes_36 rfl rfl rfl ?_
          refine J_iload (pc := 37) dX3_fewestRopes_37 rfl ?_
          refine T_callVI (pc := 39) (As := [.ref 6, .ref 13, .ref q2, .int (iI i6)]) (k := 19) (st := []) ok_yX3_firstLurch lm_X3_63 dX3_fewestRopes_39 (by decide) rfl rfl (by decide) (Nat.le_of_ble_eq_true rfl) (m_X3_firstLurch m4 q2 i6 hq2) (fun r12 m11 em11 => ?_)
          refine J_bipush (pc := 42) dX3_fewestRopes_42 (by decide) (by decide) ?_
          refine T_icmp_ne (pc := 44) (tgt := 55) dX3_fewestRopes_44 (by decide) (fun h13 => ?_) (fun h13 => ?_)
          · refine J_dropf (pc := 55) (L' := [some (.ref 19), some (.ref 6), some (.ref 13), some (.ref q2), some (.int (iI i4)), some (.int (iI i5)), some (.int (iI i6)), none]) [true, true, true, true, true, true, true, false] rfl ?_
            exact hk6 i4 i5 m11
          · refine J_iload (pc := 47) dX3_fewestRopes_47 rfl ?_
            refine J_istore (pc := 49) (L' := [some (.ref 19), some (.ref 6), some (.ref 13), some (.ref q2), some (.int (iI r5)), some (.int (iI i5)), some (.int (iI i6)), some (.int (iI r5))]) dX3_fewestRopes_49 (by decide) rfl rfl ?_
            refine J_iload (pc := 51) dX3_fewestRopes_51 rfl ?_
            refine J_istore (pc := 53) (L' := [some (.ref 19), some (.ref 6), some (.ref 13), some (.ref q2), some (.int (iI r5)), some (.int (iI i6)), some (.int (iI i6)), some (.int (iI r5))]) dX3_fewestRopes_53 (by decide) rfl rfl ?_
            refine J_dropf (pc := 55) (L' := [some (.ref 19), some (.ref 6), some (.ref 13), some (.ref q2), some (.int (iI r5)), some (.int (iI i6)), some (.int (iI i6)), none]) [true, true, true, true, true, true, true, false] rfl ?_
            exact hk6 r5 i6 m11
def f_X3_fewestRopes (m0 : Mem) (q2 : Nat) : Option (Int × Mem) := f_X3_fewestRopes_L10 (fun x14 x15 m16 => vm (wr m16 19 1 x15) fun m17 => vl (if w32 5 < w32 x14 then (-9) else x14) fun v18 => some (v18, m17)) q2 100000 6 0 0 m0
set_option maxRecDepth 40000 in
theorem m_X3_fewestRopes {l : Launch} {G : qG} (m0 : Mem) (q2 : Nat) (hq2 : oRow q2) : qM l G 6 yX3_fewestRopes cX3_fewestRopes 8 (some .int) [.ref 19, .ref 6, .ref 13, .ref q2] (lay m0) (lf eI (f_X3_fewestRopes m0 q2)) := by
  refine qM_of (L := [some (.ref 19), some (.ref 6), some (.ref 13), some (.ref q2), none, none, none, none]) (by decide +kernel) (Nat.le_of_ble_eq_true rfl) rfl ?_
  unfold f_X3_fewestRopes
  refine J_bipush (pc := 0) dX3_fewestRopes_0 (by decide) (by decide) ?_
  refine J_istore (pc := 2) (L' := [some (.ref 19), some (.ref 6), some (.ref 13), some (.ref q2), some (.int (iI 6)), none, none, none]) dX3_fewestRopes_2 (by decide) rfl rfl ?_
  refine J_iconst (pc := 4) dX3_fewestRopes_4 ?_
  refine J_istore (pc := 5) (L' := [some (.ref 19), some (.ref 6), some (.ref 13), some (.ref q2), some (.int (iI 6)), some (.int (iI 0)), none, none]) dX3_fewestRopes_5 (by decide) rfl rfl ?_
  refine J_iconst (pc := 7) dX3_fewestRopes_7 ?_
  refine J_istore (pc := 8) (L' := [some (.ref 19), some (.ref 6), some (.ref 13), some (.ref q2), some (.int (iI 6)), some (.int (iI 0)), some (.int (iI 0)), none]) dX3_fewestRopes_8 (by decide) rfl rfl ?_
  refine j_X3_fewestRopes_L10 hq2 ?_ 100000 6 0 0 m0
  · intro x14 x15 m16
    refine J_aload_n (pc := 61) dX3_fewestRopes_61 rfl rfl rfl ?_
    refine J_iload (pc := 62) dX3_fewestRopes_62 rfl ?_
    refine tp_X3_18 (pc := 64) rfl dX3_fewestRopes_64 ?_
    refine T_vm (fun m17 em17 => ?_)
    refine J_iload (pc := 67) dX3_fewestRopes_67 rfl ?_
    refine J_iconst (pc := 69) dX3_fewestRopes_69 ?_
    refine T_vl (fun v18 ev18 => ?_)
    refine T_dia (j := 80) (v := v18) (LT := [some (.ref 19), none, none, none, some (.int (iI x14)), some (.int (iI x15)), none, none]) (sT := []) ?_ (fun hj19 => ?_)
    · exact T_retI (pc := 80) rfl dX3_fewestRopes_80
    · refine T_icmp_le_same (pc := 70) (tgt := 78) dX3_fewestRopes_70 (by decide) (fun h20 => ?_) (fun h20 => ?_)
      · refine J_iload (pc := 78) dX3_fewestRopes_78 rfl ?_
        exact T_top (by rw [ev18, if_neg h20]) hj19
      · refine J_bipush (pc := 73) dX3_fewestRopes_73 (by decide) (by decide) ?_
        refine J_goto (pc := 75) (tgt := 80) dX3_fewestRopes_75 (by decide) ?_
        exact T_top (by rw [ev18, if_pos h20]) hj19
def f_X9_ropes (m0 : Mem) (p0 : Int) : Option (Int × Mem) := bd (f_X9_planRefusal m0 p0) fun r2 m1 => if w32 r2 = 0 then (ck p0 6 (bd (f_X3_fewestRopes m1 (38 + 2 * (w32 p0).toNat)) fun r6 m5 => if w32 r6 = w32 (-9) then (some (r6, m5)) else (vm (wr m5 0 13 (m5 19 1)) fun m8 => some (r6, m8)))) else (some (r2, m1))
set_option maxRecDepth 40000 in
theorem m_X9_ropes {l : Launch} {G : qG} (m0 : Mem) (p0 : Int) : qM l G 7 yX9_ropes cX9_ropes 4 (some .int) [.ref 0, .int (iI p0)] (lay m0) (lf eI (f_X9_ropes m0 p0)) := by
  refine qM_of (L := [some (.ref 0), some (.int (iI p0)), none, none]) (by decide +kernel) (Nat.le_of_ble_eq_true rfl) rfl ?_
  unfold f_X9_ropes
  refine J_aload_n (pc := 0) dX9_ropes_0 rfl rfl rfl ?_
  refine J_iload_n (pc := 1) dX9_ropes_1 rfl rfl ?_
  refine T_callVI (pc := 2) (As := [.int (iI p0)]) (k := 0) (st := []) ok_yX9_planRefusal lm_X9_222 dX9_ropes_2 (by decide) rfl rfl (by decide) (Nat.le_of_ble_eq_true rfl) (m_X9_planRefusal m0 p0) (fun r2 m1 em1 => ?_)
  refine J_istore_n (pc := 5) (L' := [some (.ref 0), some (.int (iI p0)), some (.int (iI r2)), none]) dX9_ropes_5 rfl (by decide) rfl rfl ?_
  refine J_iload_n (pc := 6) dX9_ropes_6 rfl rfl ?_
  refine T_if_eq (pc := 7) (tgt := 12) dX9_ropes_7 (by decide) (fun h3 => ?_) (fun h3 => ?_)
  · refine J_aload_n (pc := 12) dX9_ropes_12 rfl rfl rfl ?_
    refine tg_X9_56 (pc := 13) rfl dX9_ropes_13 ?_
    refine J_aload_n (pc := 16) dX9_ropes_16 rfl rfl rfl ?_
    refine tg_X9_31 (pc := 17) rfl dX9_ropes_17 ?_
    refine J_aload_n (pc := 20) dX9_ropes_20 rfl rfl rfl ?_
    refine tg_X9_38 (pc := 21) rfl dX9_ropes_21 ?_
    refine J_aload_n (pc := 24) dX9_ropes_24 rfl rfl rfl ?_
    refine tg_X9_11 (pc := 25) rfl dX9_ropes_25 ?_
    refine J_iload_n (pc := 28) dX9_ropes_28 rfl rfl ?_
    refine T_aaload (pc := 29) (by decide) rfl rfl dX9_ropes_29 (fun h4 => ?_)
    refine T_callVI (pc := 30) (As := [.ref 6, .ref 13, .ref (38 + 2 * (w32 p0).toNat)]) (k := 19) (st := []) ok_yX3_fewestRopes lm_X9_256 dX9_ropes_30 (by decide) rfl rfl (by decide) (Nat.le_of_ble_eq_true rfl) (m_X3_fewestRopes m1 (38 + 2 * (w32 p0).toNat) (oRow_e h4)) (fun r6 m5 em5 => ?_)
    refine J_istore_n (pc := 33) (L' := [some (.ref 0), some (.int (iI p0)), some (.int (iI r2)), some (.int (iI r6))]) dX9_ropes_33 rfl (by decide) rfl rfl ?_
    refine J_iload_n (pc := 34) dX9_ropes_34 rfl rfl ?_
    refine J_bipush (pc := 35) dX9_ropes_35 (by decide) (by decide) ?_
    refine T_icmp_eq (pc := 37) (tgt := 51) dX9_ropes_37 (by decide) (fun h7 => ?_) (fun h7 => ?_)
    · refine J_iload_n (pc := 51) dX9_ropes_51 rfl rfl ?_
      exact T_retI (pc := 52) rfl dX9_ropes_52
    · refine J_aload_n (pc := 40) dX9_ropes_40 rfl rfl rfl ?_
      refine J_aload_n (pc := 41) dX9_ropes_41 rfl rfl rfl ?_
      refine tg_X9_56 (pc := 42) rfl dX9_ropes_42 ?_
      refine tg_X9_229 (pc := 45) rfl dX9_ropes_45 ?_
      refine tp_X9_85 (pc := 48) rfl dX9_ropes_48 ?_
      refine T_vm (fun m8 em8 => ?_)
      refine J_iload_n (pc := 51) dX9_ropes_51 rfl rfl ?_
      exact T_retI (pc := 52) rfl dX9_ropes_52
  · refine J_iload_n (pc := 10) dX9_ropes_10 rfl rfl ?_
    exact T_retI (pc := 11) rfl dX9_ropes_11
def f_X9_orderFrom_L5 (p1 : Int) : Nat → Int → Int → Mem → Option (Int × Mem)
  | 0, _, _, _ => none
  | u + 1, i3, i4, mu5 => if w32 i4 < w32 (mu5 6 6) then (jn (κ := Int → Mem → Option (Int × Mem)) (fun x4 m3 => f_X9_orderFrom_L5 p1 u x4 (i4 + 1) m3) fun k2 => if w32 (zand (zshr p1 i4) 1) = 0 then (k2 i3 mu5) else (if w32 i3 < w32 5 then (ck i3 5 (vm (wr mu5 36 (w32 i3).toNat i4) fun m8 => k2 (i3 + 1) m8)) else (k2 i3 mu5))) else (some (i3, mu5))
set_option maxRecDepth 40000 in
theorem j_X9_orderFrom_L5 {l : Launch} {G : qG} {p1 : Int} : ∀ (u : Nat) (i3 : Int) (i4 : Int) (mu5 : Mem), qJ l G yX9_orderFrom cX9_orderFrom 5 (some .int) 1 5 [some (.ref 0), none, some (.int (iI p1)), some (.int (iI i3)), some (.int (iI i4))] [] (lay mu5) (lf eI (f_X9_orderFrom_L5 p1 u i3 i4 mu5)) := by
  intro u
  induction u with
  | zero => intro _ _ mu5; exact T_none
  | succ u ih =>
    intro i3 i4 mu5
    rw [f_X9_orderFrom_L5]
    refine J_iload (pc := 5) dX9_orderFrom_5 rfl ?_
    refine J_aload_n (pc := 7) dX9_orderFrom_7 rfl rfl rfl ?_
    refine tg_X9_31 (pc := 8) rfl dX9_orderFrom_8 ?_
    refine tg_X9_156 (pc := 11) rfl dX9_orderFrom_11 ?_
    refine T_icmp_ge (pc := 14) (tgt := 48) dX9_orderFrom_14 (by decide) (fun h1 => ?_) (fun h1 => ?_)
    · refine J_iload_n (pc := 48) dX9_orderFrom_48 rfl rfl ?_
      exact T_retI (pc := 49) rfl dX9_orderFrom_49
    · refine J_iload_n (pc := 17) dX9_orderFrom_17 rfl rfl ?_
      refine J_iload (pc := 18) dX9_orderFrom_18 rfl ?_
      refine J_ishr (pc := 20) dX9_orderFrom_20 ?_
      refine J_iconst (pc := 21) dX9_orderFrom_21 ?_
      refine J_iand (pc := 22) dX9_orderFrom_22 ?_
      refine T_jn (κ := Int → Mem → Option (Int × Mem)) (fun k => ∀ (x4 : Int) (m3 : Mem), qJ l G yX9_orderFrom cX9_orderFrom 5 (some .int) 1 42 [some (.ref 0), none, some (.int (iI p1)), some (.int (iI x4)), some (.int (iI i4))] [] (lay m3) (lf eI (k x4 m3))) ?_ (fun k2 hk2 => ?_)
      · intro x4 m3
        refine J_iinc (pc := 42) (L' := [some (.ref 0), none, some (.int (iI p1)), some (.int (iI x4)), some (.int (iI (i4 + 1)))]) dX9_orderFrom_42 rfl (by decide) rfl rfl ?_
        refine J_goto (pc := 45) (tgt := 5) dX9_orderFrom_45 (by decide) ?_
        exact ih x4 (i4 + 1) m3
      · refine T_if_eq (pc := 23) (tgt := 42) dX9_orderFrom_23 (by decide) (fun h5 => ?_) (fun h5 => ?_)
        · exact hk2 i3 mu5
        · refine J_iload_n (pc := 26) dX9_orderFrom_26 rfl rfl ?_
          refine J_iconst (pc := 27) dX9_orderFrom_27 ?_
          refine T_icmp_ge (pc := 28) (tgt := 42) dX9_orderFrom_28 (by decide) (fun h6 => ?_) (fun h6 => ?_)
          · exact hk2 i3 mu5
          · refine J_aload_n (pc := 31) dX9_orderFrom_31 rfl rfl rfl ?_
            refine tg_X9_74 (pc := 32) rfl dX9_orderFrom_32 ?_
            refine J_iload_n (pc := 35) dX9_orderFrom_35 rfl rfl ?_
            refine J_iload (pc := 36) dX9_orderFrom_36 rfl ?_
            refine T_iastore (pc := 38) (by decide) rfl dX9_orderFrom_38 (fun h7 => ?_)
            refine T_vm (fun m8 em8 => ?_)
            refine J_iinc (pc := 39) (L' := [some (.ref 0), none, some (.int (iI p1)), some (.int (iI (i3 + 1))), some (.int (iI i4))]) dX9_orderFrom_39 rfl (by decide) rfl rfl ?_
            exact hk2 (i3 + 1) m8
def f_X9_orderFrom (m0 : Mem) (p0 : Int) (p1 : Int) : Option (Int × Mem) := f_X9_orderFrom_L5 p1 100000 p0 0 m0
set_option maxRecDepth 40000 in
theorem m_X9_orderFrom {l : Launch} {G : qG} (m0 : Mem) (p0 : Int) (p1 : Int) : qM l G 1 yX9_orderFrom cX9_orderFrom 5 (some .int) [.ref 0, .int (iI p0), .int (iI p1)] (lay m0) (lf eI (f_X9_orderFrom m0 p0 p1)) := by
  refine qM_of (L := [some (.ref 0), some (.int (iI p0)), some (.int (iI p1)), none, none]) (by decide +kernel) (Nat.le_of_ble_eq_true rfl) rfl ?_
  unfold f_X9_orderFrom
  refine J_iload_n (pc := 0) dX9_orderFrom_0 rfl rfl ?_
  refine J_istore_n (pc := 1) (L' := [some (.ref 0), some (.int (iI p0)), some (.int (iI p1)), some (.int (iI p0)), none]) dX9_orderFrom_1 rfl (by decide) rfl rfl ?_
  refine J_iconst (pc := 2) dX9_orderFrom_2 ?_
  refine J_istore (pc := 3) (L' := [some (.ref 0), some (.int (iI p0)), some (.int (iI p1)), some (.int (iI p0)), some (.int (iI 0))]) dX9_orderFrom_3 (by decide) rfl rfl ?_
  refine J_dropf (pc := 5) (L' := [some (.ref 0), none, some (.int (iI p1)), some (.int (iI p0)), some (.int (iI 0))]) [true, false, true, true, true] rfl ?_
  refine j_X9_orderFrom_L5 100000 p0 0 m0
def f_X9_loose_L59 (K : Int → Mem → Option (Int × Mem)) (r12 : Int) : Nat → Int → Int → Mem → Option (Int × Mem)
  | 0, _, _, _ => none
  | u + 1, i5, i6, mu59 => if w32 i6 < w32 r12 then (ck i6 5 (bd (f_X8_pullOf mu59 (zshl 1 (mu59 36 (w32 i6).toNat))) fun r16 m15 => vl (i5 + (r16 * ((r12 - 1) - i6))) fun x17 => f_X9_loose_L59 K r12 u x17 (i6 + 1) m15)) else (K i5 mu59)
set_option maxRecDepth 40000 in
theorem j_X9_loose_L59 {l : Launch} {G : qG} {K : Int → Mem → Option (Int × Mem)} {r12 : Int} {p1 : Int} (hK : ∀ (x5 : Int) (m : Mem), qJ l G yX9_loose cX9_loose 7 (some .int) 3 101 [some (.ref 0), none, some (.int (iI p1)), none, some (.int (iI r12)), some (.int (iI x5)), none] [] (lay m) (lf eI (K x5 m))) : ∀ (u : Nat) (i5 : Int) (i6 : Int) (mu59 : Mem), qJ l G yX9_loose cX9_loose 7 (some .int) 3 59 [some (.ref 0), none, some (.int (iI p1)), none, some (.int (iI r12)), some (.int (iI i5)), some (.int (iI i6))] [] (lay mu59) (lf eI (f_X9_loose_L59 K r12 u i5 i6 mu59)) := by
  intro u
  induction u with
  | zero => intro _ _ mu59; exact T_none
  | succ u ih =>
    intro i5 i6 mu59
    rw [f_X9_loose_L59]
    refine J_iload (pc := 59) dX9_loose_59 rfl ?_
    refine J_iload (pc := 61) dX9_loose_61 rfl ?_
    refine T_icmp_ge (pc := 63) (tgt := 101) dX9_loose_63 (by decide) (fun h13 => ?_) (fun h13 => ?_)
    · refine J_dropf (pc := 101) (L' := [some (.ref 0), none, some (.int (iI p1)), none, some (.int (iI r12)), some (.int (iI i5)), none]) [true, false, true, false, true, true, false] rfl ?_
      exact hK i5 mu59
    · refine J_iload (pc := 66) dX9_loose_66 rfl ?_
      refine J_aload_n (pc := 68) dX9_loose_68 rfl rfl rfl ?_
      refine tg_X9_31 (pc := 69) rfl dX9_loose_69 ?_
      refine J_iconst (pc := 72) dX9_loose_72 ?_
      refine J_aload_n (pc := 73) dX9_loose_73 rfl rfl rfl ?_
      refine tg_X9_74 (pc := 74) rfl dX9_loose_74 ?_
      refine J_iload (pc := 77) dX9_loose_77 rfl ?_
      refine T_iaload (pc := 79) (by decide) rfl dX9_loose_79 (fun h14 => ?_)
      refine J_ishl (pc := 80) dX9_loose_80 ?_
      refine T_callVI (pc := 81) (As := [.int (iI (zshl 1 (mu59 36 (w32 i6).toNat)))]) (k := 6) (st := [.int (iI i5)]) ok_yX8_pullOf lm_X9_262 dX9_loose_81 (by decide) rfl rfl (by decide) (Nat.le_of_ble_eq_true rfl) (m_X8_pullOf mu59 (zshl 1 (mu59 36 (w32 i6).toNat))) (fun r16 m15 em15 => ?_)
      refine J_iload (pc := 84) dX9_loose_84 rfl ?_
      refine J_iconst (pc := 86) dX9_loose_86 ?_
      refine J_isub (pc := 87) dX9_loose_87 ?_
      refine J_iload (pc := 88) dX9_loose_88 rfl ?_
      refine J_isub (pc := 90) dX9_loose_90 ?_
      refine J_imul (pc := 91) dX9_loose_91 ?_
      refine J_iadd (pc := 92) dX9_loose_92 ?_
      refine T_vlI (pc := 93) (fun x17 ex17 => ?_)
      refine J_istore (pc := 93) (L' := [some (.ref 0), none, some (.int (iI p1)), none, some (.int (iI r12)), some (.int (iI x17)), some (.int (iI i6))]) dX9_loose_93 (by decide) rfl rfl ?_
      refine J_iinc (pc := 95) (L' := [some (.ref 0), none, some (.int (iI p1)), none, some (.int (iI r12)), some (.int (iI x17)), some (.int (iI (i6 + 1)))]) dX9_loose_95 rfl (by decide) rfl rfl ?_
      refine J_goto (pc := 98) (tgt := 59) dX9_loose_98 (by decide) ?_
      exact ih x17 (i6 + 1) m15
def f_X9_loose (m0 : Mem) (p0 : Int) (p1 : Int) : Option (Int × Mem) := bd (f_X8_hasSet m0 p0) fun r2 m1 => if w32 r2 = 0 then (some ((-1), m1)) else (bd (f_X9_isRow m1 p1) fun r5 m4 => if w32 r5 = 0 then (some ((-1), m4)) else (ck 2 6 (vl (zand p0 (m4 8 (w32 2).toNat)) fun x8 => bd (f_X9_orderFrom m4 0 (zand p0 (zxor x8 (-1)))) fun r10 m9 => bd (f_X9_orderFrom m9 r10 x8) fun r12 m11 => f_X9_loose_L59 (fun x18 m19 => ck p1 6 (bd (f_X5_take m19 (38 + 2 * (w32 p1).toNat) 36 5 r12) fun _u m21 => some (x18, m21))) r12 100000 0 0 m11)))
set_option maxRecDepth 40000 in
theorem m_X9_loose {l : Launch} {G : qG} (m0 : Mem) (p0 : Int) (p1 : Int) : qM l G 3 yX9_loose cX9_loose 7 (some .int) [.ref 0, .int (iI p0), .int (iI p1)] (lay m0) (lf eI (f_X9_loose m0 p0 p1)) := by
  refine qM_of (L := [some (.ref 0), some (.int (iI p0)), some (.int (iI p1)), none, none, none, none]) (by decide +kernel) (Nat.le_of_ble_eq_true rfl) rfl ?_
  unfold f_X9_loose
  refine J_aload_n (pc := 0) dX9_loose_0 rfl rfl rfl ?_
  refine tg_X9_31 (pc := 1) rfl dX9_loose_1 ?_
  refine J_iload_n (pc := 4) dX9_loose_4 rfl rfl ?_
  refine T_callVI (pc := 5) (As := [.int (iI p0)]) (k := 6) (st := []) ok_yX8_hasSet lm_X9_180 dX9_loose_5 (by decide) rfl rfl (by decide) (Nat.le_of_ble_eq_true rfl) (m_X8_hasSet m0 p0) (fun r2 m1 em1 => ?_)
  refine T_if_eq (pc := 8) (tgt := 18) dX9_loose_8 (by decide) (fun h3 => ?_) (fun h3 => ?_)
  · refine J_iconst (pc := 18) dX9_loose_18 ?_
    exact T_retI (pc := 19) rfl dX9_loose_19
  · refine J_iload_n (pc := 11) dX9_loose_11 rfl rfl ?_
    refine T_callSI (pc := 12) (As := [.int (iI p1)]) (st := []) ok_yX9_isRow lm_X9_100 dX9_loose_12 (by decide) (Nat.le_of_ble_eq_true rfl) (m_X9_isRow m1 p1) (fun r5 m4 em4 => ?_)
    refine T_if_ne (pc := 15) (tgt := 20) dX9_loose_15 (by decide) (fun h6 => ?_) (fun h6 => ?_)
    · refine J_iload_n (pc := 20) dX9_loose_20 rfl rfl ?_
      refine J_aload_n (pc := 21) dX9_loose_21 rfl rfl rfl ?_
      refine tg_X9_31 (pc := 22) rfl dX9_loose_22 ?_
      refine tg_X9_171 (pc := 25) rfl dX9_loose_25 ?_
      refine J_iconst (pc := 28) dX9_loose_28 ?_
      refine T_iaload (pc := 29) (by decide) rfl dX9_loose_29 (fun h7 => ?_)
      refine J_iand (pc := 30) dX9_loose_30 ?_
      refine T_vlI (pc := 31) (fun x8 ex8 => ?_)
      refine J_istore_n (pc := 31) (L' := [some (.ref 0), some (.int (iI p0)), some (.int (iI p1)), some (.int (iI x8)), none, none, none]) dX9_loose_31 rfl (by decide) rfl rfl ?_
      refine J_aload_n (pc := 32) dX9_loose_32 rfl rfl rfl ?_
      refine J_iconst (pc := 33) dX9_loose_33 ?_
      refine J_iload_n (pc := 34) dX9_loose_34 rfl rfl ?_
      refine J_iload_n (pc := 35) dX9_loose_35 rfl rfl ?_
      refine J_iconst (pc := 36) dX9_loose_36 ?_
      refine J_ixor (pc := 37) dX9_loose_37 ?_
      refine J_iand (pc := 38) dX9_loose_38 ?_
      refine T_callVI (pc := 39) (As := [.int (iI 0), .int (iI (zand p0 (zxor x8 (-1))))]) (k := 0) (st := []) ok_yX9_orderFrom lm_X9_259 dX9_loose_39 (by decide) rfl rfl (by decide) (Nat.le_of_ble_eq_true rfl) (m_X9_orderFrom m4 0 (zand p0 (zxor x8 (-1)))) (fun r10 m9 em9 => ?_)
      refine J_istore (pc := 42) (L' := [some (.ref 0), some (.int (iI p0)), some (.int (iI p1)), some (.int (iI x8)), some (.int (iI r10)), none, none]) dX9_loose_42 (by decide) rfl rfl ?_
      refine J_aload_n (pc := 44) dX9_loose_44 rfl rfl rfl ?_
      refine J_iload (pc := 45) dX9_loose_45 rfl ?_
      refine J_iload_n (pc := 47) dX9_loose_47 rfl rfl ?_
      refine T_callVI (pc := 48) (As := [.int (iI r10), .int (iI x8)]) (k := 0) (st := []) ok_yX9_orderFrom lm_X9_259 dX9_loose_48 (by decide) rfl rfl (by decide) (Nat.le_of_ble_eq_true rfl) (m_X9_orderFrom m9 r10 x8) (fun r12 m11 em11 => ?_)
      refine J_istore (pc := 51) (L' := [some (.ref 0), some (.int (iI p0)), some (.int (iI p1)), some (.int (iI x8)), some (.int (iI r12)), none, none]) dX9_loose_51 (by decide) rfl rfl ?_
      refine J_iconst (pc := 53) dX9_loose_53 ?_
      refine J_istore (pc := 54) (L' := [some (.ref 0), some (.int (iI p0)), some (.int (iI p1)), some (.int (iI x8)), some (.int (iI r12)), some (.int (iI 0)), none]) dX9_loose_54 (by decide) rfl rfl ?_
      refine J_iconst (pc := 56) dX9_loose_56 ?_
      refine J_istore (pc := 57) (L' := [some (.ref 0), some (.int (iI p0)), some (.int (iI p1)), some (.int (iI x8)), some (.int (iI r12)), some (.int (iI 0)), some (.int (iI 0))]) dX9_loose_57 (by decide) rfl rfl ?_
      refine J_dropf (pc := 59) (L' := [some (.ref 0), none, some (.int (iI p1)), none, some (.int (iI r12)), some (.int (iI 0)), some (.int (iI 0))]) [true, false, true, false, true, true, true] rfl ?_
      refine j_X9_loose_L59 ?_ 100000 0 0 m11
      · intro x18 m19
        refine J_aload_n (pc := 101) dX9_loose_101 rfl rfl rfl ?_
        refine tg_X9_11 (pc := 102) rfl dX9_loose_102 ?_
        refine J_iload_n (pc := 105) dX9_loose_105 rfl rfl ?_
        refine T_aaload (pc := 106) (by decide) rfl rfl dX9_loose_106 (fun h20 => ?_)
        refine J_aload_n (pc := 107) dX9_loose_107 rfl rfl rfl ?_
        refine tg_X9_74 (pc := 108) rfl dX9_loose_108 ?_
        refine J_iload (pc := 111) dX9_loose_111 rfl ?_
        refine T_callVU (pc := 113) (As := [.ref 36, .int (iI r12)]) (k := (38 + 2 * (w32 p1).toNat)) (st := []) ok_yX5_take lm_X9_243 dX9_loose_113 (oRow_l (oRow_e h20)) (oRow_o (oRow_e h20)) rfl (by decide) (Nat.le_of_ble_eq_true rfl) (m_X5_take m19 (38 + 2 * (w32 p1).toNat) 36 5 r12 (oRow_e h20) (by decide) rfl) (fun _u m21 em21 => ?_)
        refine J_iload (pc := 116) dX9_loose_116 rfl ?_
        exact T_retI (pc := 118) rfl dX9_loose_118
    · refine J_iconst (pc := 18) dX9_loose_18 ?_
      exact T_retI (pc := 19) rfl dX9_loose_19
def f_X0_weigh_L53 (K : Mem → Option (Unit × Mem)) (x4 : Int) (i4 : Int) (r9 : Int) : Nat → Int → Mem → Option (Unit × Mem)
  | 0, _, _ => none
  | u + 1, i6, mu53 => if w32 i6 < w32 (mu53 6 7) then (bd (f_X8_gainOf mu53 i6 x4) fun r12 m11 => bd (f_X8_gainOf m11 i6 r9) fun r14 m13 => ck ((i4 * 4) + i6) 128 (vm (wr m13 35 (w32 ((i4 * 4) + i6)).toNat (r12 + r14)) fun m16 => f_X0_weigh_L53 K x4 i4 r9 u (i6 + 1) m16)) else (K mu53)
set_option maxRecDepth 40000 in
theorem j_X0_weigh_L53 {l : Launch} {G : qG} {K : Mem → Option (Unit × Mem)} {x4 : Int} {i4 : Int} {r9 : Int} (hK : ∀ (m : Mem), qJ l G yX0_weigh cX0_weigh 7 none 4 96 [some (.ref 32), some (.ref 6), none, some (.int (iI x4)), some (.int (iI i4)), none, none] [] (lay m) (lf eU (K m))) : ∀ (u : Nat) (i6 : Int) (mu53 : Mem), qJ l G yX0_weigh cX0_weigh 7 none 4 53 [some (.ref 32), some (.ref 6), none, some (.int (iI x4)), some (.int (iI i4)), some (.int (iI r9)), some (.int (iI i6))] [] (lay mu53) (lf eU (f_X0_weigh_L53 K x4 i4 r9 u i6 mu53)) := by
  intro u
  induction u with
  | zero => intro _ mu53; exact T_none
  | succ u ih =>
    intro i6 mu53
    rw [f_X0_weigh_L53]
    refine J_iload (pc := 53) dX0_weigh_53 rfl ?_
    refine J_aload_n (pc := 55) dX0_weigh_55 rfl rfl rfl ?_
    refine tg_X0_43 (pc := 56) rfl dX0_weigh_56 ?_
    refine T_icmp_ge (pc := 59) (tgt := 96) dX0_weigh_59 (by decide) (fun h10 => ?_) (fun h10 => ?_)
    · refine J_dropf (pc := 96) (L' := [some (.ref 32), some (.ref 6), none, some (.int (iI x4)), some (.int (iI i4)), none, none]) [true, true, false, true, true, false, false] rfl ?_
      exact hK  mu53
    · refine J_aload_n (pc := 62) dX0_weigh_62 rfl rfl rfl ?_
      refine tg_X0_18 (pc := 63) rfl dX0_weigh_63 ?_
      refine J_iload (pc := 66) dX0_weigh_66 rfl ?_
      refine J_iconst (pc := 68) dX0_weigh_68 ?_
      refine J_imul (pc := 69) dX0_weigh_69 ?_
      refine J_iload (pc := 70) dX0_weigh_70 rfl ?_
      refine J_iadd (pc := 72) dX0_weigh_72 ?_
      refine J_aload_n (pc := 73) dX0_weigh_73 rfl rfl rfl ?_
      refine J_iload (pc := 74) dX0_weigh_74 rfl ?_
      refine J_iload_n (pc := 76) dX0_weigh_76 rfl rfl ?_
      refine T_callVI (pc := 77) (As := [.int (iI i6), .int (iI x4)]) (k := 6) (st := [.int (iI ((i4 * 4) + i6)), .ref 35]) ok_yX8_gainOf lm_X0_47 dX0_weigh_77 (by decide) rfl rfl (by decide) (Nat.le_of_ble_eq_true rfl) (m_X8_gainOf mu53 i6 x4) (fun r12 m11 em11 => ?_)
      refine J_aload_n (pc := 80) dX0_weigh_80 rfl rfl rfl ?_
      refine J_iload (pc := 81) dX0_weigh_81 rfl ?_
      refine J_iload (pc := 83) dX0_weigh_83 rfl ?_
      refine T_callVI (pc := 85) (As := [.int (iI i6), .int (iI r9)]) (k := 6) (st := [.int (iI r12), .int (iI ((i4 * 4) + i6)), .ref 35]) ok_yX8_gainOf lm_X0_47 dX0_weigh_85 (by decide) rfl rfl (by decide) (Nat.le_of_ble_eq_true rfl) (m_X8_gainOf m11 i6 r9) (fun r14 m13 em13 => ?_)
      refine J_iadd (pc := 88) dX0_weigh_88 ?_
      refine T_iastore (pc := 89) (by decide) rfl dX0_weigh_89 (fun h15 => ?_)
      refine T_vm (fun m16 em16 => ?_)
      refine J_iinc (pc := 90) (L' := [some (.ref 32), some (.ref 6), none, some (.int (iI x4)), some (.int (iI i4)), some (.int (iI r9)), some (.int (iI (i6 + 1)))]) dX0_weigh_90 rfl (by decide) rfl rfl ?_
      refine J_goto (pc := 93) (tgt := 53) dX0_weigh_93 (by decide) ?_
      exact ih (i6 + 1) m16
def f_X0_weigh_L29 (x4 : Int) : Nat → Int → Mem → Option (Unit × Mem)
  | 0, _, _ => none
  | u + 1, i4, mu29 => bd (f_X8_allCapes mu29) fun r6 m5 => if w32 r6 < w32 i4 then (some ((), m5)) else (bd (f_X1_minuteBehind m5 33 i4) fun r9 m8 => f_X0_weigh_L53 (fun m17 => f_X0_weigh_L29 x4 u (i4 + 1) m17) x4 i4 r9 100000 0 m8)
set_option maxRecDepth 40000 in
theorem j_X0_weigh_L29 {l : Launch} {G : qG} {x4 : Int} : ∀ (u : Nat) (i4 : Int) (mu29 : Mem), qJ l G yX0_weigh cX0_weigh 7 none 4 29 [some (.ref 32), some (.ref 6), none, some (.int (iI x4)), some (.int (iI i4)), none, none] [] (lay mu29) (lf eU (f_X0_weigh_L29 x4 u i4 mu29)) := by
  intro u
  induction u with
  | zero => intro _ mu29; exact T_none
  | succ u ih =>
    intro i4 mu29
    rw [f_X0_weigh_L29]
    refine J_iload (pc := 29) dX0_weigh_29 rfl ?_
    refine J_aload_n (pc := 31) dX0_weigh_31 rfl rfl rfl ?_
    refine T_callVI (pc := 32) (As := []) (k := 6) (st := [.int (iI i4)]) ok_yX8_allCapes lm_X0_33 dX0_weigh_32 (by decide) rfl rfl (by decide) (Nat.le_of_ble_eq_true rfl) (m_X8_allCapes mu29) (fun r6 m5 em5 => ?_)
    refine T_icmp_gt (pc := 35) (tgt := 102) dX0_weigh_35 (by decide) (fun h7 => ?_) (fun h7 => ?_)
    · exact T_retV (pc := 102) rfl dX0_weigh_102
    · refine J_aload_n (pc := 38) dX0_weigh_38 rfl rfl rfl ?_
      refine tg_X0_12 (pc := 39) rfl dX0_weigh_39 ?_
      refine J_aload_n (pc := 42) dX0_weigh_42 rfl rfl rfl ?_
      refine J_iload (pc := 43) dX0_weigh_43 rfl ?_
      refine T_callVI (pc := 45) (As := [.ref 6, .int (iI i4)]) (k := 33) (st := []) ok_yX1_minuteBehind lm_X0_39 dX0_weigh_45 (oDay_l (by unfold oDay; decide)) (oDay_o (by unfold oDay; decide)) rfl (by decide) (Nat.le_of_ble_eq_true rfl) (m_X1_minuteBehind m5 33 i4 (by unfold oDay; decide)) (fun r9 m8 em8 => ?_)
      refine J_istore (pc := 48) (L' := [some (.ref 32), some (.ref 6), none, some (.int (iI x4)), some (.int (iI i4)), some (.int (iI r9)), none]) dX0_weigh_48 (by decide) rfl rfl ?_
      refine J_iconst (pc := 50) dX0_weigh_50 ?_
      refine J_istore (pc := 51) (L' := [some (.ref 32), some (.ref 6), none, some (.int (iI x4)), some (.int (iI i4)), some (.int (iI r9)), some (.int (iI 0))]) dX0_weigh_51 (by decide) rfl rfl ?_
      refine j_X0_weigh_L53 ?_ 100000 0 m8
      · intro m17
        refine J_iinc (pc := 96) (L' := [some (.ref 32), some (.ref 6), none, some (.int (iI x4)), some (.int (iI (i4 + 1))), none, none]) dX0_weigh_96 rfl (by decide) rfl rfl ?_
        refine J_goto (pc := 99) (tgt := 29) dX0_weigh_99 (by decide) ?_
        exact ih (i4 + 1) m17
def f_X0_weigh (m0 : Mem) : Option (Unit × Mem) := bd (f_X1_take m0 33 13) fun _u m1 => bd (f_X1_look m1 33) fun _u m2 => ck 0 16 (vl (m2 (33 + 1) (w32 0).toNat) fun x4 => f_X0_weigh_L29 x4 100000 0 m2)
set_option maxRecDepth 40000 in
theorem m_X0_weigh {l : Launch} {G : qG} (m0 : Mem) : qM l G 4 yX0_weigh cX0_weigh 7 none [.ref 32, .ref 6, .ref 13] (lay m0) (lf eU (f_X0_weigh m0)) := by
  refine qM_of (L := [some (.ref 32), some (.ref 6), some (.ref 13), none, none, none, none]) (by decide +kernel) (Nat.le_of_ble_eq_true rfl) rfl ?_
  unfold f_X0_weigh
  refine J_aload_n (pc := 0) dX0_weigh_0 rfl rfl rfl ?_
  refine tg_X0_12 (pc := 1) rfl dX0_weigh_1 ?_
  refine J_aload_n (pc := 4) dX0_weigh_4 rfl rfl rfl ?_
  refine T_callVU (pc := 5) (As := [.ref 13]) (k := 33) (st := []) ok_yX1_take lm_X0_22 dX0_weigh_5 (oDay_l (by unfold oDay; decide)) (oDay_o (by unfold oDay; decide)) rfl (by decide) (Nat.le_of_ble_eq_true rfl) (m_X1_take m0 33 13 (by unfold oDay; decide) (by unfold oDay; decide)) (fun _u m1 em1 => ?_)
  refine J_aload_n (pc := 8) dX0_weigh_8 rfl rfl rfl ?_
  refine tg_X0_12 (pc := 9) rfl dX0_weigh_9 ?_
  refine J_aload_n (pc := 12) dX0_weigh_12 rfl rfl rfl ?_
  refine T_callVU (pc := 13) (As := [.ref 6]) (k := 33) (st := []) ok_yX1_look lm_X0_26 dX0_weigh_13 (oDay_l (by unfold oDay; decide)) (oDay_o (by unfold oDay; decide)) rfl (by decide) (Nat.le_of_ble_eq_true rfl) (m_X1_look m1 33 (by unfold oDay; decide)) (fun _u m2 em2 => ?_)
  refine J_aload_n (pc := 16) dX0_weigh_16 rfl rfl rfl ?_
  refine tg_X0_12 (pc := 17) rfl dX0_weigh_17 ?_
  refine tg_X0_30 (pc := 20) (by unfold oDay; decide) rfl dX0_weigh_20 ?_
  refine J_iconst (pc := 23) dX0_weigh_23 ?_
  refine T_iaload (pc := 24) (oDay_l1 (by unfold oDay; decide)) (oDay_a1 (by unfold oDay; decide)) dX0_weigh_24 (fun h3 => ?_)
  refine T_vlI (pc := 25) (fun x4 ex4 => ?_)
  refine J_istore_n (pc := 25) (L' := [some (.ref 32), some (.ref 6), some (.ref 13), some (.int (iI x4)), none, none, none]) dX0_weigh_25 rfl (by decide) rfl rfl ?_
  refine J_iconst (pc := 26) dX0_weigh_26 ?_
  refine J_istore (pc := 27) (L' := [some (.ref 32), some (.ref 6), some (.ref 13), some (.int (iI x4)), some (.int (iI 0)), none, none]) dX0_weigh_27 (by decide) rfl rfl ?_
  refine J_dropf (pc := 29) (L' := [some (.ref 32), some (.ref 6), none, some (.int (iI x4)), some (.int (iI 0)), none, none]) [true, true, false, true, true, false, false] rfl ?_
  refine j_X0_weigh_L29 100000 0 m2
def f_X0_votersFor_L6 (p1 : Int) (p2 : Int) : Nat → Int → Int → Mem → Option (Int × Mem)
  | 0, _, _, _ => none
  | u + 1, i4, i5, mu6 => if w32 i5 < w32 (mu6 6 7) then (ck ((p1 * 4) + i5) 128 (ck ((p2 * 4) + i5) 128 (jn (κ := Int → Mem → Option (Int × Mem)) (fun x6 m5 => f_X0_votersFor_L6 p1 p2 u x6 (i5 + 1) m5) fun k4 => if w32 (mu6 35 (w32 ((p2 * 4) + i5)).toNat) < w32 (mu6 35 (w32 ((p1 * 4) + i5)).toNat) then (vl (zor i4 (zshl 1 i5)) fun x8 => k4 x8 mu6) else (k4 i4 mu6)))) else (some (i4, mu6))
set_option maxRecDepth 40000 in
theorem j_X0_votersFor_L6 {l : Launch} {G : qG} {p1 : Int} {p2 : Int} : ∀ (u : Nat) (i4 : Int) (i5 : Int) (mu6 : Mem), qJ l G yX0_votersFor cX0_votersFor 6 (some .int) 1 6 [some (.ref 32), some (.ref 6), some (.int (iI p1)), some (.int (iI p2)), some (.int (iI i4)), some (.int (iI i5))] [] (lay mu6) (lf eI (f_X0_votersFor_L6 p1 p2 u i4 i5 mu6)) := by
  intro u
  induction u with
  | zero => intro _ _ mu6; exact T_none
  | succ u ih =>
    intro i4 i5 mu6
    rw [f_X0_votersFor_L6]
    refine J_iload (pc := 6) dX0_votersFor_6 rfl ?_
    refine J_aload_n (pc := 8) dX0_votersFor_8 rfl rfl rfl ?_
    refine tg_X0_43 (pc := 9) rfl dX0_votersFor_9 ?_
    refine T_icmp_ge (pc := 12) (tgt := 55) dX0_votersFor_12 (by decide) (fun h1 => ?_) (fun h1 => ?_)
    · refine J_iload (pc := 55) dX0_votersFor_55 rfl ?_
      exact T_retI (pc := 57) rfl dX0_votersFor_57
    · refine J_aload_n (pc := 15) dX0_votersFor_15 rfl rfl rfl ?_
      refine tg_X0_18 (pc := 16) rfl dX0_votersFor_16 ?_
      refine J_iload_n (pc := 19) dX0_votersFor_19 rfl rfl ?_
      refine J_iconst (pc := 20) dX0_votersFor_20 ?_
      refine J_imul (pc := 21) dX0_votersFor_21 ?_
      refine J_iload (pc := 22) dX0_votersFor_22 rfl ?_
      refine J_iadd (pc := 24) dX0_votersFor_24 ?_
      refine T_iaload (pc := 25) (by decide) rfl dX0_votersFor_25 (fun h2 => ?_)
      refine J_aload_n (pc := 26) dX0_votersFor_26 rfl rfl rfl ?_
      refine tg_X0_18 (pc := 27) rfl dX0_votersFor_27 ?_
      refine J_iload_n (pc := 30) dX0_votersFor_30 rfl rfl ?_
      refine J_iconst (pc := 31) dX0_votersFor_31 ?_
      refine J_imul (pc := 32) dX0_votersFor_32 ?_
      refine J_iload (pc := 33) dX0_votersFor_33 rfl ?_
      refine J_iadd (pc := 35) dX0_votersFor_35 ?_
      refine T_iaload (pc := 36) (by decide) rfl dX0_votersFor_36 (fun h3 => ?_)
      refine T_jn (κ := Int → Mem → Option (Int × Mem)) (fun k => ∀ (x6 : Int) (m5 : Mem), qJ l G yX0_votersFor cX0_votersFor 6 (some .int) 1 49 [some (.ref 32), some (.ref 6), some (.int (iI p1)), some (.int (iI p2)), some (.int (iI x6)), some (.int (iI i5))] [] (lay m5) (lf eI (k x6 m5))) ?_ (fun k4 hk4 => ?_)
      · intro x6 m5
        refine J_iinc (pc := 49) (L' := [some (.ref 32), some (.ref 6), some (.int (iI p1)), some (.int (iI p2)), some (.int (iI x6)), some (.int (iI (i5 + 1)))]) dX0_votersFor_49 rfl (by decide) rfl rfl ?_
        refine J_goto (pc := 52) (tgt := 6) dX0_votersFor_52 (by decide) ?_
        exact ih x6 (i5 + 1) m5
      · refine T_icmp_le (pc := 37) (tgt := 49) dX0_votersFor_37 (by decide) (fun h7 => ?_) (fun h7 => ?_)
        · exact hk4 i4 mu6
        · refine J_iload (pc := 40) dX0_votersFor_40 rfl ?_
          refine J_iconst (pc := 42) dX0_votersFor_42 ?_
          refine J_iload (pc := 43) dX0_votersFor_43 rfl ?_
          refine J_ishl (pc := 45) dX0_votersFor_45 ?_
          refine J_ior (pc := 46) dX0_votersFor_46 ?_
          refine T_vlI (pc := 47) (fun x8 ex8 => ?_)
          refine J_istore (pc := 47) (L' := [some (.ref 32), some (.ref 6), some (.int (iI p1)), some (.int (iI p2)), some (.int (iI x8)), some (.int (iI i5))]) dX0_votersFor_47 (by decide) rfl rfl ?_
          exact hk4 x8 mu6
def f_X0_votersFor (m0 : Mem) (p1 : Int) (p2 : Int) : Option (Int × Mem) := f_X0_votersFor_L6 p1 p2 100000 0 0 m0
set_option maxRecDepth 40000 in
theorem m_X0_votersFor {l : Launch} {G : qG} (m0 : Mem) (p1 : Int) (p2 : Int) : qM l G 1 yX0_votersFor cX0_votersFor 6 (some .int) [.ref 32, .ref 6, .int (iI p1), .int (iI p2)] (lay m0) (lf eI (f_X0_votersFor m0 p1 p2)) := by
  refine qM_of (L := [some (.ref 32), some (.ref 6), some (.int (iI p1)), some (.int (iI p2)), none, none]) (by decide +kernel) (Nat.le_of_ble_eq_true rfl) rfl ?_
  unfold f_X0_votersFor
  refine J_iconst (pc := 0) dX0_votersFor_0 ?_
  refine J_istore (pc := 1) (L' := [some (.ref 32), some (.ref 6), some (.int (iI p1)), some (.int (iI p2)), some (.int (iI 0)), none]) dX0_votersFor_1 (by decide) rfl rfl ?_
  refine J_iconst (pc := 3) dX0_votersFor_3 ?_
  refine J_istore (pc := 4) (L' := [some (.ref 32), some (.ref 6), some (.int (iI p1)), some (.int (iI p2)), some (.int (iI 0)), some (.int (iI 0))]) dX0_votersFor_4 (by decide) rfl rfl ?_
  refine j_X0_votersFor_L6 100000 0 0 m0
