def f_X9_isRow (m0 : Mem) (p0 : Int) : Option (Int × Mem) := vl (if w32 p0 < 0 then 0 else (if w32 p0 < w32 6 then 1 else 0)) fun v1 => some (v1, m0)
set_option maxRecDepth 40000 in
theorem m_X9_isRow {l : Launch} {G : qG} (m0 : Mem) (p0 : Int) : qM l G 1 yX9_isRow cX9_isRow 1 (some .boolean) [.int (iI p0)] (lay m0) (lf eI (f_X9_isRow m0 p0)) := by
  refine qM_of (L := [some (.int (iI p0))]) (by decide +kernel) (Nat.le_of_ble_eq_true rfl) rfl ?_
  unfold f_X9_isRow
  refine J_iload_n (pc := 0) dX9_isRow_0 rfl rfl ?_
  refine T_vl (fun v1 ev1 => ?_)
  refine T_dia (j := 15) (v := v1) (LT := [some (.int (iI p0))]) (sT := []) ?_ (fun hj2 => ?_)
  · exact T_retZ (pc := 15) rfl (by rw [ev1]; repeat' (first | exact Or.inl rfl | exact Or.inr rfl | split)) dX9_isRow_15
  · refine T_if_lt_same (pc := 1) (tgt := 14) dX9_isRow_1 (by decide) (fun h3 => ?_) (fun h3 => ?_)
    · refine J_iconst (pc := 14) dX9_isRow_14 ?_
      exact T_top (by rw [ev1, if_pos h3]) hj2
    · refine J_iload_n (pc := 4) dX9_isRow_4 rfl rfl ?_
      refine J_bipush (pc := 5) dX9_isRow_5 (by decide) (by decide) ?_
      refine T_icmp_ge_same (pc := 7) (tgt := 14) dX9_isRow_7 (by decide) (fun h4 => ?_) (fun h4 => ?_)
      · refine J_iconst (pc := 14) dX9_isRow_14 ?_
        exact T_top (by rw [ev1, if_neg h3, if_neg h4]) hj2
      · refine J_iconst (pc := 10) dX9_isRow_10 ?_
        refine J_goto (pc := 11) (tgt := 15) dX9_isRow_11 (by decide) ?_
        exact T_top (by rw [ev1, if_neg h3, if_pos h4]) hj2
def f_X9_found (m0 : Mem) (p0 : Int) : Option (Int × Mem) := vm (wr m0 0 12 p0) fun m1 => ck p0 6 (ck p0 6 (vm (wr m1 37 (w32 p0).toNat ((m1 37 (w32 p0).toNat) + 1)) fun m4 => some ((-3), m4)))
set_option maxRecDepth 40000 in
theorem m_X9_found {l : Launch} {G : qG} (m0 : Mem) (p0 : Int) : qM l G 1 yX9_found cX9_found 2 (some .int) [.ref 0, .int (iI p0)] (lay m0) (lf eI (f_X9_found m0 p0)) := by
  refine qM_of (L := [some (.ref 0), some (.int (iI p0))]) (by decide +kernel) (Nat.le_of_ble_eq_true rfl) rfl ?_
  unfold f_X9_found
  refine J_aload_n (pc := 0) dX9_found_0 rfl rfl rfl ?_
  refine J_iload_n (pc := 1) dX9_found_1 rfl rfl ?_
  refine tp_X9_81 (pc := 2) rfl dX9_found_2 ?_
  refine T_vm (fun m1 em1 => ?_)
  refine J_aload_n (pc := 5) dX9_found_5 rfl rfl rfl ?_
  refine tg_X9_78 (pc := 6) rfl dX9_found_6 ?_
  refine J_iload_n (pc := 9) dX9_found_9 rfl rfl ?_
  refine J_dup2 (pc := 10) dX9_found_10 rfl rfl ?_
  refine T_iaload (pc := 11) (by decide) rfl dX9_found_11 (fun h2 => ?_)
  refine J_iconst (pc := 12) dX9_found_12 ?_
  refine J_iadd (pc := 13) dX9_found_13 ?_
  refine T_iastore (pc := 14) (by decide) rfl dX9_found_14 (fun h3 => ?_)
  refine T_vm (fun m4 em4 => ?_)
  refine J_bipush (pc := 15) dX9_found_15 (by decide) (by decide) ?_
  exact T_retI (pc := 17) rfl dX9_found_17
def f_J7_fill_53178_L5 (a0 : Nat) (n0 : Nat) (p1 : Int) (x1 : Int) : Nat → Int → Mem → Option (Unit × Mem)
  | 0, _, _ => none
  | u + 1, i2, mu5 => if w32 i2 < w32 x1 then (ck i2 n0 (vm (wr mu5 a0 (w32 i2).toNat p1) fun m4 => f_J7_fill_53178_L5 a0 n0 p1 x1 u (i2 + 1) m4)) else (some ((), mu5))
set_option maxRecDepth 40000 in
theorem j_J7_fill_53178_L5 {l : Launch} {G : qG} {a0 : Nat} {n0 : Nat} {p1 : Int} {x1 : Int} (ha0 : a0 < qN) (hs0 : shp a0 = .inr (.inl (0, n0))) : ∀ (u : Nat) (i2 : Int) (mu5 : Mem), qJ l G yJ7_fill_53178 cJ7_fill_53178 4 none 1 5 [some (.ref a0), some (.int (iI p1)), some (.int (iI i2)), some (.int (iI x1))] [] (lay mu5) (lf eU (f_J7_fill_53178_L5 a0 n0 p1 x1 u i2 mu5)) := by
  intro u
  induction u with
  | zero => intro _ mu5; exact T_none
  | succ u ih =>
    intro i2 mu5
    rw [f_J7_fill_53178_L5]
    refine J_iload_n (pc := 5) dJ7_fill_53178_5 rfl rfl ?_
    refine J_iload_n (pc := 6) dJ7_fill_53178_6 rfl rfl ?_
    refine T_icmp_ge (pc := 7) (tgt := 20) dJ7_fill_53178_7 (by decide) (fun h2 => ?_) (fun h2 => ?_)
    · exact T_retV (pc := 20) rfl dJ7_fill_53178_20
    · refine J_aload_n (pc := 10) dJ7_fill_53178_10 rfl rfl rfl ?_
      refine J_iload_n (pc := 11) dJ7_fill_53178_11 rfl rfl ?_
      refine J_iload_n (pc := 12) dJ7_fill_53178_12 rfl rfl ?_
      refine T_iastore (pc := 13) ha0 hs0 dJ7_fill_53178_13 (fun h3 => ?_)
      refine T_vm (fun m4 em4 => ?_)
      refine J_iinc (pc := 14) (L' := [some (.ref a0), some (.int (iI p1)), some (.int (iI (i2 + 1))), some (.int (iI x1))]) dJ7_fill_53178_14 rfl (by decide) rfl rfl ?_
      refine J_goto (pc := 17) (tgt := 5) dJ7_fill_53178_17 (by decide) ?_
      exact ih (i2 + 1) m4
def f_J7_fill_53178 (m0 : Mem) (a0 : Nat) (n0 : Nat) (p1 : Int) : Option (Unit × Mem) := vl ((n0 : Int)) fun x1 => f_J7_fill_53178_L5 a0 n0 p1 x1 100000 0 m0
set_option maxRecDepth 40000 in
theorem m_J7_fill_53178 {l : Launch} {G : qG} (m0 : Mem) (a0 : Nat) (n0 : Nat) (p1 : Int) (ha0 : a0 < qN) (hs0 : shp a0 = .inr (.inl (0, n0))) : qM l G 1 yJ7_fill_53178 cJ7_fill_53178 4 none [.ref a0, .int (iI p1)] (lay m0) (lf eU (f_J7_fill_53178 m0 a0 n0 p1)) := by
  refine qM_of (L := [some (.ref a0), some (.int (iI p1)), none, none]) (by decide +kernel) (Nat.le_of_ble_eq_true rfl) rfl ?_
  unfold f_J7_fill_53178
  refine J_iconst (pc := 0) dJ7_fill_53178_0 ?_
  refine J_istore_n (pc := 1) (L' := [some (.ref a0), some (.int (iI p1)), some (.int (iI 0)), none]) dJ7_fill_53178_1 rfl (by decide) rfl rfl ?_
  refine J_aload_n (pc := 2) dJ7_fill_53178_2 rfl rfl rfl ?_
  refine T_alen (pc := 3) ha0 hs0 rfl dJ7_fill_53178_3 ?_
  refine T_vlI (pc := 4) (fun x1 ex1 => ?_)
  refine J_istore_n (pc := 4) (L' := [some (.ref a0), some (.int (iI p1)), some (.int (iI 0)), some (.int (iI x1))]) dJ7_fill_53178_4 rfl (by decide) rfl rfl ?_
  refine j_J7_fill_53178_L5 ha0 hs0 100000 0 m0
def f_X5_begin (m0 : Mem) (t : Nat) (p0 : Int) : Option (Unit × Mem) := bd (f_J7_fill_53178 m0 (t + 1) 40 0) fun _u m1 => vm (wr m1 t 1 p0) fun m2 => some ((), m2)
set_option maxRecDepth 40000 in
theorem m_X5_begin {l : Launch} {G : qG} (m0 : Mem) (t : Nat) (p0 : Int) (ht : oRow t) : qM l G 2 yX5_begin cX5_begin 2 none [.ref t, .int (iI p0)] (lay m0) (lf eU (f_X5_begin m0 t p0)) := by
  refine qM_of (L := [some (.ref t), some (.int (iI p0))]) (by decide +kernel) (Nat.le_of_ble_eq_true rfl) rfl ?_
  unfold f_X5_begin
  refine J_aload_n (pc := 0) dX5_begin_0 rfl rfl rfl ?_
  refine tg_X5_9 (pc := 1) ht rfl dX5_begin_1 ?_
  refine J_iconst (pc := 4) dX5_begin_4 ?_
  refine T_callSU (pc := 5) (As := [.ref (t + 1), .int (iI 0)]) (st := []) ok_yJ7_fill_53178 lm_X5_19 dX5_begin_5 (by decide) (Nat.le_of_ble_eq_true rfl) (m_J7_fill_53178 m0 (t + 1) 40 0 (oRow_l1 ht) (oRow_a1 ht)) (fun _u m1 em1 => ?_)
  refine J_aload_n (pc := 8) dX5_begin_8 rfl rfl rfl ?_
  refine J_iload_n (pc := 9) dX5_begin_9 rfl rfl ?_
  refine tp_X5_15 (pc := 10) ht rfl dX5_begin_10 ?_
  refine T_vm (fun m2 em2 => ?_)
  exact T_retV (pc := 13) rfl dX5_begin_13
def f_X9_row (m0 : Mem) (p0 : Int) (p1 : Int) : Option (Int × Mem) := bd (f_X9_isRow m0 p0) fun r2 m1 => if w32 r2 = 0 then (some ((-1), m1)) else (if w32 40 < w32 p1 then (some ((-1), m1)) else (if w32 p1 < 0 then (bd (f_X9_found m1 5) fun r9 m8 => some (r9, m8)) else (ck p0 6 (bd (f_X5_begin m1 (38 + 2 * (w32 p0).toNat) p1) fun _u m7 => some (p1, m7)))))
set_option maxRecDepth 40000 in
theorem m_X9_row {l : Launch} {G : qG} (m0 : Mem) (p0 : Int) (p1 : Int) : qM l G 3 yX9_row cX9_row 3 (some .int) [.ref 0, .int (iI p0), .int (iI p1)] (lay m0) (lf eI (f_X9_row m0 p0 p1)) := by
  refine qM_of (L := [some (.ref 0), some (.int (iI p0)), some (.int (iI p1))]) (by decide +kernel) (Nat.le_of_ble_eq_true rfl) rfl ?_
  unfold f_X9_row
  refine J_iload_n (pc := 0) dX9_row_0 rfl rfl ?_
  refine T_callSI (pc := 1) (As := [.int (iI p0)]) (st := []) ok_yX9_isRow lm_X9_100 dX9_row_1 (by decide) (Nat.le_of_ble_eq_true rfl) (m_X9_isRow m0 p0) (fun r2 m1 em1 => ?_)
  refine T_if_eq (pc := 4) (tgt := 13) dX9_row_4 (by decide) (fun h3 => ?_) (fun h3 => ?_)
  · refine J_iconst (pc := 13) dX9_row_13 ?_
    exact T_retI (pc := 14) rfl dX9_row_14
  · refine J_iload_n (pc := 7) dX9_row_7 rfl rfl ?_
    refine J_bipush (pc := 8) dX9_row_8 (by decide) (by decide) ?_
    refine T_icmp_le (pc := 10) (tgt := 15) dX9_row_10 (by decide) (fun h4 => ?_) (fun h4 => ?_)
    · refine J_iload_n (pc := 15) dX9_row_15 rfl rfl ?_
      refine T_if_ge (pc := 16) (tgt := 25) dX9_row_16 (by decide) (fun h5 => ?_) (fun h5 => ?_)
      · refine J_aload_n (pc := 25) dX9_row_25 rfl rfl rfl ?_
        refine tg_X9_11 (pc := 26) rfl dX9_row_26 ?_
        refine J_iload_n (pc := 29) dX9_row_29 rfl rfl ?_
        refine T_aaload (pc := 30) (by decide) rfl rfl dX9_row_30 (fun h6 => ?_)
        refine J_iload_n (pc := 31) dX9_row_31 rfl rfl ?_
        refine T_callVU (pc := 32) (As := [.int (iI p1)]) (k := (38 + 2 * (w32 p0).toNat)) (st := []) ok_yX5_begin lm_X9_108 dX9_row_32 (oRow_l (oRow_e h6)) (oRow_o (oRow_e h6)) rfl (by decide) (Nat.le_of_ble_eq_true rfl) (m_X5_begin m1 (38 + 2 * (w32 p0).toNat) p1 (oRow_e h6)) (fun _u m7 em7 => ?_)
        refine J_iload_n (pc := 35) dX9_row_35 rfl rfl ?_
        exact T_retI (pc := 36) rfl dX9_row_36
      · refine J_aload_n (pc := 19) dX9_row_19 rfl rfl rfl ?_
        refine J_iconst (pc := 20) dX9_row_20 ?_
        refine T_callVI (pc := 21) (As := [.int (iI 5)]) (k := 0) (st := []) ok_yX9_found lm_X9_104 dX9_row_21 (by decide) rfl rfl (by decide) (Nat.le_of_ble_eq_true rfl) (m_X9_found m1 5) (fun r9 m8 em8 => ?_)
        exact T_retI (pc := 24) rfl dX9_row_24
    · refine J_iconst (pc := 13) dX9_row_13 ?_
      exact T_retI (pc := 14) rfl dX9_row_14
def f_X5_isThere (m0 : Mem) (t : Nat) : Option (Int × Mem) := vl (if w32 (m0 t 1) < 0 then 0 else 1) fun v1 => some (v1, m0)
set_option maxRecDepth 40000 in
theorem m_X5_isThere {l : Launch} {G : qG} (m0 : Mem) (t : Nat) (ht : oRow t) : qM l G 1 yX5_isThere cX5_isThere 1 (some .boolean) [.ref t] (lay m0) (lf eI (f_X5_isThere m0 t)) := by
  refine qM_of (L := [some (.ref t)]) (by decide +kernel) (Nat.le_of_ble_eq_true rfl) rfl ?_
  unfold f_X5_isThere
  refine J_aload_n (pc := 0) dX5_isThere_0 rfl rfl rfl ?_
  refine tg_X5_15 (pc := 1) ht rfl dX5_isThere_1 ?_
  refine T_vl (fun v1 ev1 => ?_)
  refine T_dia (j := 12) (v := v1) (LT := [some (.ref t)]) (sT := []) ?_ (fun hj2 => ?_)
  · exact T_retZ (pc := 12) rfl (by rw [ev1]; repeat' (first | exact Or.inl rfl | exact Or.inr rfl | split)) dX5_isThere_12
  · refine T_if_lt_same (pc := 4) (tgt := 11) dX5_isThere_4 (by decide) (fun h3 => ?_) (fun h3 => ?_)
    · refine J_iconst (pc := 11) dX5_isThere_11 ?_
      exact T_top (by rw [ev1, if_pos h3]) hj2
    · refine J_iconst (pc := 7) dX5_isThere_7 ?_
      refine J_goto (pc := 8) (tgt := 12) dX5_isThere_8 (by decide) ?_
      exact T_top (by rw [ev1, if_neg h3]) hj2
def f_X9_placeRefusal (m0 : Mem) (p0 : Int) (p1 : Int) : Option (Int × Mem) := bd (f_X9_isRow m0 p0) fun r2 m1 => if w32 r2 = 0 then (some ((-1), m1)) else (ck p0 6 (bd (f_X5_isThere m1 (38 + 2 * (w32 p0).toNat)) fun r6 m5 => if w32 r6 = 0 then (bd (f_X9_found m5 1) fun r16 m15 => some (r16, m15)) else (jn (κ := Mem → Option (Int × Mem)) (fun m9 => bd (f_X9_found m9 2) fun r11 m10 => some (r11, m10)) fun k8 => if w32 p1 < 0 then (k8 m5) else (ck p0 6 (if w32 p1 < w32 (m5 (38 + 2 * (w32 p0).toNat) 1) then (some (0, m5)) else (k8 m5))))))
set_option maxRecDepth 40000 in
theorem m_X9_placeRefusal {l : Launch} {G : qG} (m0 : Mem) (p0 : Int) (p1 : Int) : qM l G 2 yX9_placeRefusal cX9_placeRefusal 3 (some .int) [.ref 0, .int (iI p0), .int (iI p1)] (lay m0) (lf eI (f_X9_placeRefusal m0 p0 p1)) := by
  refine qM_of (L := [some (.ref 0), some (.int (iI p0)), some (.int (iI p1))]) (by decide +kernel) (Nat.le_of_ble_eq_true rfl) rfl ?_
  unfold f_X9_placeRefusal
  refine J_iload_n (pc := 0) dX9_placeRefusal_0 rfl rfl ?_
  refine T_callSI (pc := 1) (As := [.int (iI p0)]) (st := []) ok_yX9_isRow lm_X9_100 dX9_placeRefusal_1 (by decide) (Nat.le_of_ble_eq_true rfl) (m_X9_isRow m0 p0) (fun r2 m1 em1 => ?_)
  refine T_if_ne (pc := 4) (tgt := 9) dX9_placeRefusal_4 (by decide) (fun h3 => ?_) (fun h3 => ?_)
  · refine J_aload_n (pc := 9) dX9_placeRefusal_9 rfl rfl rfl ?_
    refine tg_X9_11 (pc := 10) rfl dX9_placeRefusal_10 ?_
    refine J_iload_n (pc := 13) dX9_placeRefusal_13 rfl rfl ?_
    refine T_aaload (pc := 14) (by decide) rfl rfl dX9_placeRefusal_14 (fun h4 => ?_)
    refine T_callVI (pc := 15) (As := []) (k := (38 + 2 * (w32 p0).toNat)) (st := []) ok_yX5_isThere lm_X9_119 dX9_placeRefusal_15 (oRow_l (oRow_e h4)) (oRow_o (oRow_e h4)) rfl (by decide) (Nat.le_of_ble_eq_true rfl) (m_X5_isThere m1 (38 + 2 * (w32 p0).toNat) (oRow_e h4)) (fun r6 m5 em5 => ?_)
    refine T_if_ne (pc := 18) (tgt := 27) dX9_placeRefusal_18 (by decide) (fun h7 => ?_) (fun h7 => ?_)
    · refine J_iload_n (pc := 27) dX9_placeRefusal_27 rfl rfl ?_
      refine T_jn (κ := Mem → Option (Int × Mem)) (fun k => ∀ (m9 : Mem), qJ l G yX9_placeRefusal cX9_placeRefusal 3 (some .int) 2 44 [some (.ref 0), none, none] [] (lay m9) (lf eI (k m9))) ?_ (fun k8 hk8 => ?_)
      · intro m9
        refine J_aload_n (pc := 44) dX9_placeRefusal_44 rfl rfl rfl ?_
        refine J_iconst (pc := 45) dX9_placeRefusal_45 ?_
        refine T_callVI (pc := 46) (As := [.int (iI 2)]) (k := 0) (st := []) ok_yX9_found lm_X9_104 dX9_placeRefusal_46 (by decide) rfl rfl (by decide) (Nat.le_of_ble_eq_true rfl) (m_X9_found m9 2) (fun r11 m10 em10 => ?_)
        exact T_retI (pc := 49) rfl dX9_placeRefusal_49
      · refine T_if_lt (pc := 28) (tgt := 44) dX9_placeRefusal_28 (by decide) (fun h12 => ?_) (fun h12 => ?_)
        · refine J_dropf (pc := 44) (L' := [some (.ref 0), none, none]) [true, false, false] rfl ?_
          exact hk8  m5
        · refine J_iload_n (pc := 31) dX9_placeRefusal_31 rfl rfl ?_
          refine J_aload_n (pc := 32) dX9_placeRefusal_32 rfl rfl rfl ?_
          refine tg_X9_11 (pc := 33) rfl dX9_placeRefusal_33 ?_
          refine J_iload_n (pc := 36) dX9_placeRefusal_36 rfl rfl ?_
          refine T_aaload (pc := 37) (by decide) rfl rfl dX9_placeRefusal_37 (fun h13 => ?_)
          refine tg_X9_123 (pc := 38) (oRow_e h13) rfl dX9_placeRefusal_38 ?_
          refine T_icmp_lt (pc := 41) (tgt := 50) dX9_placeRefusal_41 (by decide) (fun h14 => ?_) (fun h14 => ?_)
          · refine J_iconst (pc := 50) dX9_placeRefusal_50 ?_
            exact T_retI (pc := 51) rfl dX9_placeRefusal_51
          · refine J_dropf (pc := 44) (L' := [some (.ref 0), none, none]) [true, false, false] rfl ?_
            exact hk8  m5
    · refine J_aload_n (pc := 21) dX9_placeRefusal_21 rfl rfl rfl ?_
      refine J_iconst (pc := 22) dX9_placeRefusal_22 ?_
      refine T_callVI (pc := 23) (As := [.int (iI 1)]) (k := 0) (st := []) ok_yX9_found lm_X9_104 dX9_placeRefusal_23 (by decide) rfl rfl (by decide) (Nat.le_of_ble_eq_true rfl) (m_X9_found m5 1) (fun r16 m15 em15 => ?_)
      exact T_retI (pc := 26) rfl dX9_placeRefusal_26
  · refine J_iconst (pc := 7) dX9_placeRefusal_7 ?_
    exact T_retI (pc := 8) rfl dX9_placeRefusal_8
def f_X9_lay (m0 : Mem) (p0 : Int) (p1 : Int) (p2 : Int) : Option (Int × Mem) := bd (f_X9_placeRefusal m0 p0 p1) fun r2 m1 => if w32 r2 = 0 then (ck p0 6 (ck p1 40 (vm (wr m1 0 13 (m1 ((38 + 2 * (w32 p0).toNat) + 1) (w32 p1).toNat)) fun m6 => ck p0 6 (ck p1 40 (vm (wr m6 ((38 + 2 * (w32 p0).toNat) + 1) (w32 p1).toNat p2) fun m9 => some (1, m9)))))) else (some (r2, m1))
set_option maxRecDepth 40000 in
theorem m_X9_lay {l : Launch} {G : qG} (m0 : Mem) (p0 : Int) (p1 : Int) (p2 : Int) : qM l G 3 yX9_lay cX9_lay 5 (some .int) [.ref 0, .int (iI p0), .int (iI p1), .int (iI p2)] (lay m0) (lf eI (f_X9_lay m0 p0 p1 p2)) := by
  refine qM_of (L := [some (.ref 0), some (.int (iI p0)), some (.int (iI p1)), some (.int (iI p2)), none]) (by decide +kernel) (Nat.le_of_ble_eq_true rfl) rfl ?_
  unfold f_X9_lay
  refine J_aload_n (pc := 0) dX9_lay_0 rfl rfl rfl ?_
  refine J_iload_n (pc := 1) dX9_lay_1 rfl rfl ?_
  refine J_iload_n (pc := 2) dX9_lay_2 rfl rfl ?_
  refine T_callVI (pc := 3) (As := [.int (iI p0), .int (iI p1)]) (k := 0) (st := []) ok_yX9_placeRefusal lm_X9_112 dX9_lay_3 (by decide) rfl rfl (by decide) (Nat.le_of_ble_eq_true rfl) (m_X9_placeRefusal m0 p0 p1) (fun r2 m1 em1 => ?_)
  refine J_istore (pc := 6) (L' := [some (.ref 0), some (.int (iI p0)), some (.int (iI p1)), some (.int (iI p2)), some (.int (iI r2))]) dX9_lay_6 (by decide) rfl rfl ?_
  refine J_iload (pc := 8) dX9_lay_8 rfl ?_
  refine T_if_eq (pc := 10) (tgt := 16) dX9_lay_10 (by decide) (fun h3 => ?_) (fun h3 => ?_)
  · refine J_aload_n (pc := 16) dX9_lay_16 rfl rfl rfl ?_
    refine J_aload_n (pc := 17) dX9_lay_17 rfl rfl rfl ?_
    refine tg_X9_11 (pc := 18) rfl dX9_lay_18 ?_
    refine J_iload_n (pc := 21) dX9_lay_21 rfl rfl ?_
    refine T_aaload (pc := 22) (by decide) rfl rfl dX9_lay_22 (fun h4 => ?_)
    refine tg_X9_116 (pc := 23) (oRow_e h4) rfl dX9_lay_23 ?_
    refine J_iload_n (pc := 26) dX9_lay_26 rfl rfl ?_
    refine T_iaload (pc := 27) (oRow_l1 (oRow_e h4)) (oRow_a1 (oRow_e h4)) dX9_lay_27 (fun h5 => ?_)
    refine tp_X9_85 (pc := 28) rfl dX9_lay_28 ?_
    refine T_vm (fun m6 em6 => ?_)
    refine J_aload_n (pc := 31) dX9_lay_31 rfl rfl rfl ?_
    refine tg_X9_11 (pc := 32) rfl dX9_lay_32 ?_
    refine J_iload_n (pc := 35) dX9_lay_35 rfl rfl ?_
    refine T_aaload (pc := 36) (by decide) rfl rfl dX9_lay_36 (fun h7 => ?_)
    refine tg_X9_116 (pc := 37) (oRow_e h7) rfl dX9_lay_37 ?_
    refine J_iload_n (pc := 40) dX9_lay_40 rfl rfl ?_
    refine J_iload_n (pc := 41) dX9_lay_41 rfl rfl ?_
    refine T_iastore (pc := 42) (oRow_l1 (oRow_e h7)) (oRow_a1 (oRow_e h7)) dX9_lay_42 (fun h8 => ?_)
    refine T_vm (fun m9 em9 => ?_)
    refine J_iconst (pc := 43) dX9_lay_43 ?_
    exact T_retI (pc := 44) rfl dX9_lay_44
  · refine J_iload (pc := 13) dX9_lay_13 rfl ?_
    exact T_retI (pc := 15) rfl dX9_lay_15
def f_X9_at (m0 : Mem) (p0 : Int) (p1 : Int) : Option (Int × Mem) := bd (f_X9_placeRefusal m0 p0 p1) fun r2 m1 => if w32 r2 = 0 then (ck p0 6 (ck p1 40 (vm (wr m1 0 13 (m1 ((38 + 2 * (w32 p0).toNat) + 1) (w32 p1).toNat)) fun m6 => some (1, m6)))) else (some (r2, m1))
set_option maxRecDepth 40000 in
theorem m_X9_at {l : Launch} {G : qG} (m0 : Mem) (p0 : Int) (p1 : Int) : qM l G 3 yX9_at cX9_at 4 (some .int) [.ref 0, .int (iI p0), .int (iI p1)] (lay m0) (lf eI (f_X9_at m0 p0 p1)) := by
  refine qM_of (L := [some (.ref 0), some (.int (iI p0)), some (.int (iI p1)), none]) (by decide +kernel) (Nat.le_of_ble_eq_true rfl) rfl ?_
  unfold f_X9_at
  refine J_aload_n (pc := 0) dX9_at_0 rfl rfl rfl ?_
  refine J_iload_n (pc := 1) dX9_at_1 rfl rfl ?_
  refine J_iload_n (pc := 2) dX9_at_2 rfl rfl ?_
  refine T_callVI (pc := 3) (As := [.int (iI p0), .int (iI p1)]) (k := 0) (st := []) ok_yX9_placeRefusal lm_X9_112 dX9_at_3 (by decide) rfl rfl (by decide) (Nat.le_of_ble_eq_true rfl) (m_X9_placeRefusal m0 p0 p1) (fun r2 m1 em1 => ?_)
  refine J_istore_n (pc := 6) (L' := [some (.ref 0), some (.int (iI p0)), some (.int (iI p1)), some (.int (iI r2))]) dX9_at_6 rfl (by decide) rfl rfl ?_
  refine J_iload_n (pc := 7) dX9_at_7 rfl rfl ?_
  refine T_if_eq (pc := 8) (tgt := 13) dX9_at_8 (by decide) (fun h3 => ?_) (fun h3 => ?_)
  · refine J_aload_n (pc := 13) dX9_at_13 rfl rfl rfl ?_
    refine J_aload_n (pc := 14) dX9_at_14 rfl rfl rfl ?_
    refine tg_X9_11 (pc := 15) rfl dX9_at_15 ?_
    refine J_iload_n (pc := 18) dX9_at_18 rfl rfl ?_
    refine T_aaload (pc := 19) (by decide) rfl rfl dX9_at_19 (fun h4 => ?_)
    refine tg_X9_116 (pc := 20) (oRow_e h4) rfl dX9_at_20 ?_
    refine J_iload_n (pc := 23) dX9_at_23 rfl rfl ?_
    refine T_iaload (pc := 24) (oRow_l1 (oRow_e h4)) (oRow_a1 (oRow_e h4)) dX9_at_24 (fun h5 => ?_)
    refine tp_X9_85 (pc := 25) rfl dX9_at_25 ?_
    refine T_vm (fun m6 em6 => ?_)
    refine J_iconst (pc := 28) dX9_at_28 ?_
    exact T_retI (pc := 29) rfl dX9_at_29
  · refine J_iload_n (pc := 11) dX9_at_11 rfl rfl ?_
    exact T_retI (pc := 12) rfl dX9_at_12
def f_X9_tear (m0 : Mem) (p0 : Int) : Option (Int × Mem) := bd (f_X9_isRow m0 p0) fun r2 m1 => if w32 r2 = 0 then (some ((-1), m1)) else (ck p0 6 (bd (f_X5_isThere m1 (38 + 2 * (w32 p0).toNat)) fun r6 m5 => if w32 r6 = 0 then (bd (f_X9_found m5 1) fun r11 m10 => some (r11, m10)) else (ck p0 6 (vm (wr m5 (38 + 2 * (w32 p0).toNat) 1 (-1)) fun m9 => some (1, m9)))))
set_option maxRecDepth 40000 in
theorem m_X9_tear {l : Launch} {G : qG} (m0 : Mem) (p0 : Int) : qM l G 2 yX9_tear cX9_tear 2 (some .int) [.ref 0, .int (iI p0)] (lay m0) (lf eI (f_X9_tear m0 p0)) := by
  refine qM_of (L := [some (.ref 0), some (.int (iI p0))]) (by decide +kernel) (Nat.le_of_ble_eq_true rfl) rfl ?_
  unfold f_X9_tear
  refine J_iload_n (pc := 0) dX9_tear_0 rfl rfl ?_
  refine T_callSI (pc := 1) (As := [.int (iI p0)]) (st := []) ok_yX9_isRow lm_X9_100 dX9_tear_1 (by decide) (Nat.le_of_ble_eq_true rfl) (m_X9_isRow m0 p0) (fun r2 m1 em1 => ?_)
  refine T_if_ne (pc := 4) (tgt := 9) dX9_tear_4 (by decide) (fun h3 => ?_) (fun h3 => ?_)
  · refine J_aload_n (pc := 9) dX9_tear_9 rfl rfl rfl ?_
    refine tg_X9_11 (pc := 10) rfl dX9_tear_10 ?_
    refine J_iload_n (pc := 13) dX9_tear_13 rfl rfl ?_
    refine T_aaload (pc := 14) (by decide) rfl rfl dX9_tear_14 (fun h4 => ?_)
    refine T_callVI (pc := 15) (As := []) (k := (38 + 2 * (w32 p0).toNat)) (st := []) ok_yX5_isThere lm_X9_119 dX9_tear_15 (oRow_l (oRow_e h4)) (oRow_o (oRow_e h4)) rfl (by decide) (Nat.le_of_ble_eq_true rfl) (m_X5_isThere m1 (38 + 2 * (w32 p0).toNat) (oRow_e h4)) (fun r6 m5 em5 => ?_)
    refine T_if_ne (pc := 18) (tgt := 27) dX9_tear_18 (by decide) (fun h7 => ?_) (fun h7 => ?_)
    · refine J_aload_n (pc := 27) dX9_tear_27 rfl rfl rfl ?_
      refine tg_X9_11 (pc := 28) rfl dX9_tear_28 ?_
      refine J_iload_n (pc := 31) dX9_tear_31 rfl rfl ?_
      refine T_aaload (pc := 32) (by decide) rfl rfl dX9_tear_32 (fun h8 => ?_)
      refine J_iconst (pc := 33) dX9_tear_33 ?_
      refine tp_X9_123 (pc := 34) (oRow_e h8) rfl dX9_tear_34 ?_
      refine T_vm (fun m9 em9 => ?_)
      refine J_iconst (pc := 37) dX9_tear_37 ?_
      exact T_retI (pc := 38) rfl dX9_tear_38
    · refine J_aload_n (pc := 21) dX9_tear_21 rfl rfl rfl ?_
      refine J_iconst (pc := 22) dX9_tear_22 ?_
      refine T_callVI (pc := 23) (As := [.int (iI 1)]) (k := 0) (st := []) ok_yX9_found lm_X9_104 dX9_tear_23 (by decide) rfl rfl (by decide) (Nat.le_of_ble_eq_true rfl) (m_X9_found m5 1) (fun r11 m10 em10 => ?_)
      exact T_retI (pc := 26) rfl dX9_tear_26
  · refine J_iconst (pc := 7) dX9_tear_7 ?_
    exact T_retI (pc := 8) rfl dX9_tear_8
def f_X5_hasMany (m0 : Mem) (t : Nat) (p0 : Int) (p1 : Int) : Option (Int × Mem) := vl (if w32 p0 < 0 then 0 else (if w32 p1 < 0 then 0 else (if w32 ((m0 t 1) - p1) < w32 p0 then 0 else 1))) fun v1 => some (v1, m0)
set_option maxRecDepth 40000 in
theorem m_X5_hasMany {l : Launch} {G : qG} (m0 : Mem) (t : Nat) (p0 : Int) (p1 : Int) (ht : oRow t) : qM l G 1 yX5_hasMany cX5_hasMany 3 (some .boolean) [.ref t, .int (iI p0), .int (iI p1)] (lay m0) (lf eI (f_X5_hasMany m0 t p0 p1)) := by
  refine qM_of (L := [some (.ref t), some (.int (iI p0)), some (.int (iI p1))]) (by decide +kernel) (Nat.le_of_ble_eq_true rfl) rfl ?_
  unfold f_X5_hasMany
  refine J_iload_n (pc := 0) dX5_hasMany_0 rfl rfl ?_
  refine T_vl (fun v1 ev1 => ?_)
  refine T_dia (j := 23) (v := v1) (LT := [some (.ref t), some (.int (iI p0)), some (.int (iI p1))]) (sT := []) ?_ (fun hj2 => ?_)
  · exact T_retZ (pc := 23) rfl (by rw [ev1]; repeat' (first | exact Or.inl rfl | exact Or.inr rfl | split)) dX5_hasMany_23
  · refine T_if_lt_same (pc := 1) (tgt := 22) dX5_hasMany_1 (by decide) (fun h3 => ?_) (fun h3 => ?_)
    · refine J_iconst (pc := 22) dX5_hasMany_22 ?_
      exact T_top (by rw [ev1, if_pos h3]) hj2
    · refine J_iload_n (pc := 4) dX5_hasMany_4 rfl rfl ?_
      refine T_if_lt_same (pc := 5) (tgt := 22) dX5_hasMany_5 (by decide) (fun h4 => ?_) (fun h4 => ?_)
      · refine J_iconst (pc := 22) dX5_hasMany_22 ?_
        exact T_top (by rw [ev1, if_neg h3, if_pos h4]) hj2
      · refine J_iload_n (pc := 8) dX5_hasMany_8 rfl rfl ?_
        refine J_aload_n (pc := 9) dX5_hasMany_9 rfl rfl rfl ?_
        refine tg_X5_15 (pc := 10) ht rfl dX5_hasMany_10 ?_
        refine J_iload_n (pc := 13) dX5_hasMany_13 rfl rfl ?_
        refine J_isub (pc := 14) dX5_hasMany_14 ?_
        refine T_icmp_gt_same (pc := 15) (tgt := 22) dX5_hasMany_15 (by decide) (fun h5 => ?_) (fun h5 => ?_)
        · refine J_iconst (pc := 22) dX5_hasMany_22 ?_
          exact T_top (by rw [ev1, if_neg h3, if_neg h4, if_pos h5]) hj2
        · refine J_iconst (pc := 18) dX5_hasMany_18 ?_
          refine J_goto (pc := 19) (tgt := 23) dX5_hasMany_19 (by decide) ?_
          exact T_top (by rw [ev1, if_neg h3, if_neg h4, if_neg h5]) hj2
def f_X9_copy (m0 : Mem) (p0 : Int) (p1 : Int) (p2 : Int) (p3 : Int) (p4 : Int) : Option (Int × Mem) := bd (f_X9_isRow m0 p0) fun r2 m1 => if w32 r2 = 0 then (some ((-1), m1)) else (bd (f_X9_isRow m1 p2) fun r5 m4 => if w32 r5 = 0 then (some ((-1), m4)) else (if w32 p4 < 0 then (bd (f_X9_found m4 5) fun r36 m35 => some (r36, m35)) else (ck p0 6 (bd (f_X5_isThere m4 (38 + 2 * (w32 p0).toNat)) fun r10 m9 => jn (κ := Mem → Option (Int × Mem)) (fun m12 => bd (f_X9_found m12 1) fun r14 m13 => some (r14, m13)) fun k11 => if w32 r10 = 0 then (k11 m9) else (ck p2 6 (bd (f_X5_isThere m9 (38 + 2 * (w32 p2).toNat)) fun r18 m17 => if w32 r18 = 0 then (k11 m17) else (ck p0 6 (bd (f_X5_hasMany m17 (38 + 2 * (w32 p0).toNat) p1 p4) fun r22 m21 => jn (κ := Mem → Option (Int × Mem)) (fun m24 => bd (f_X9_found m24 2) fun r26 m25 => some (r26, m25)) fun k23 => if w32 r22 = 0 then (k23 m21) else (ck p2 6 (bd (f_X5_hasMany m21 (38 + 2 * (w32 p2).toNat) p3 p4) fun r30 m29 => if w32 r30 = 0 then (k23 m29) else (ck p0 6 (ck p2 6 (ckc p1 p3 p4 40 40 (vm (cpy m29 ((38 + 2 * (w32 p0).toNat) + 1) ((38 + 2 * (w32 p2).toNat) + 1) (w32 p1).toNat (w32 p3).toNat (w32 p4).toNat) fun m34 => some (1, m34)))))))))))))))
set_option maxRecDepth 40000 in
theorem m_X9_copy {l : Launch} {G : qG} (m0 : Mem) (p0 : Int) (p1 : Int) (p2 : Int) (p3 : Int) (p4 : Int) : qM l G 2 yX9_copy cX9_copy 6 (some .int) [.ref 0, .int (iI p0), .int (iI p1), .int (iI p2), .int (iI p3), .int (iI p4)] (lay m0) (lf eI (f_X9_copy m0 p0 p1 p2 p3 p4)) := by
  refine qM_of (L := [some (.ref 0), some (.int (iI p0)), some (.int (iI p1)), some (.int (iI p2)), some (.int (iI p3)), some (.int (iI p4))]) (by decide +kernel) (Nat.le_of_ble_eq_true rfl) rfl ?_
  unfold f_X9_copy
  refine J_iload_n (pc := 0) dX9_copy_0 rfl rfl ?_
  refine T_callSI (pc := 1) (As := [.int (iI p0)]) (st := []) ok_yX9_isRow lm_X9_100 dX9_copy_1 (by decide) (Nat.le_of_ble_eq_true rfl) (m_X9_isRow m0 p0) (fun r2 m1 em1 => ?_)
  refine T_if_eq (pc := 4) (tgt := 14) dX9_copy_4 (by decide) (fun h3 => ?_) (fun h3 => ?_)
  · refine J_iconst (pc := 14) dX9_copy_14 ?_
    exact T_retI (pc := 15) rfl dX9_copy_15
  · refine J_iload_n (pc := 7) dX9_copy_7 rfl rfl ?_
    refine T_callSI (pc := 8) (As := [.int (iI p2)]) (st := []) ok_yX9_isRow lm_X9_100 dX9_copy_8 (by decide) (Nat.le_of_ble_eq_true rfl) (m_X9_isRow m1 p2) (fun r5 m4 em4 => ?_)
    refine T_if_ne (pc := 11) (tgt := 16) dX9_copy_11 (by decide) (fun h6 => ?_) (fun h6 => ?_)
    · refine J_iload (pc := 16) dX9_copy_16 rfl ?_
      refine T_if_ge (pc := 18) (tgt := 27) dX9_copy_18 (by decide) (fun h7 => ?_) (fun h7 => ?_)
      · refine J_aload_n (pc := 27) dX9_copy_27 rfl rfl rfl ?_
        refine tg_X9_11 (pc := 28) rfl dX9_copy_28 ?_
        refine J_iload_n (pc := 31) dX9_copy_31 rfl rfl ?_
        refine T_aaload (pc := 32) (by decide) rfl rfl dX9_copy_32 (fun h8 => ?_)
        refine T_callVI (pc := 33) (As := []) (k := (38 + 2 * (w32 p0).toNat)) (st := []) ok_yX5_isThere lm_X9_119 dX9_copy_33 (oRow_l (oRow_e h8)) (oRow_o (oRow_e h8)) rfl (by decide) (Nat.le_of_ble_eq_true rfl) (m_X5_isThere m4 (38 + 2 * (w32 p0).toNat) (oRow_e h8)) (fun r10 m9 em9 => ?_)
        refine T_jn (κ := Mem → Option (Int × Mem)) (fun k => ∀ (m12 : Mem), qJ l G yX9_copy cX9_copy 6 (some .int) 2 51 [some (.ref 0), none, none, none, none, none] [] (lay m12) (lf eI (k m12))) ?_ (fun k11 hk11 => ?_)
        · intro m12
          refine J_aload_n (pc := 51) dX9_copy_51 rfl rfl rfl ?_
          refine J_iconst (pc := 52) dX9_copy_52 ?_
          refine T_callVI (pc := 53) (As := [.int (iI 1)]) (k := 0) (st := []) ok_yX9_found lm_X9_104 dX9_copy_53 (by decide) rfl rfl (by decide) (Nat.le_of_ble_eq_true rfl) (m_X9_found m12 1) (fun r14 m13 em13 => ?_)
          exact T_retI (pc := 56) rfl dX9_copy_56
        · refine T_if_eq (pc := 36) (tgt := 51) dX9_copy_36 (by decide) (fun h15 => ?_) (fun h15 => ?_)
          · refine J_dropf (pc := 51) (L' := [some (.ref 0), none, none, none, none, none]) [true, false, false, false, false, false] rfl ?_
            exact hk11  m9
          · refine J_aload_n (pc := 39) dX9_copy_39 rfl rfl rfl ?_
            refine tg_X9_11 (pc := 40) rfl dX9_copy_40 ?_
            refine J_iload_n (pc := 43) dX9_copy_43 rfl rfl ?_
            refine T_aaload (pc := 44) (by decide) rfl rfl dX9_copy_44 (fun h16 => ?_)
            refine T_callVI (pc := 45) (As := []) (k := (38 + 2 * (w32 p2).toNat)) (st := []) ok_yX5_isThere lm_X9_119 dX9_copy_45 (oRow_l (oRow_e h16)) (oRow_o (oRow_e h16)) rfl (by decide) (Nat.le_of_ble_eq_true rfl) (m_X5_isThere m9 (38 + 2 * (w32 p2).toNat) (oRow_e h16)) (fun r18 m17 em17 => ?_)
            refine T_if_ne (pc := 48) (tgt := 57) dX9_copy_48 (by decide) (fun h19 => ?_) (fun h19 => ?_)
            · refine J_aload_n (pc := 57) dX9_copy_57 rfl rfl rfl ?_
              refine tg_X9_11 (pc := 58) rfl dX9_copy_58 ?_
              refine J_iload_n (pc := 61) dX9_copy_61 rfl rfl ?_
              refine T_aaload (pc := 62) (by decide) rfl rfl dX9_copy_62 (fun h20 => ?_)
              refine J_iload_n (pc := 63) dX9_copy_63 rfl rfl ?_
              refine J_iload (pc := 64) dX9_copy_64 rfl ?_
              refine T_callVI (pc := 66) (As := [.int (iI p1), .int (iI p4)]) (k := (38 + 2 * (w32 p0).toNat)) (st := []) ok_yX5_hasMany lm_X9_124 dX9_copy_66 (oRow_l (oRow_e h20)) (oRow_o (oRow_e h20)) rfl (by decide) (Nat.le_of_ble_eq_true rfl) (m_X5_hasMany m17 (38 + 2 * (w32 p0).toNat) p1 p4 (oRow_e h20)) (fun r22 m21 em21 => ?_)
              refine T_jn (κ := Mem → Option (Int × Mem)) (fun k => ∀ (m24 : Mem), qJ l G yX9_copy cX9_copy 6 (some .int) 2 88 [some (.ref 0), none, none, none, none, none] [] (lay m24) (lf eI (k m24))) ?_ (fun k23 hk23 => ?_)
              · intro m24
                refine J_aload_n (pc := 88) dX9_copy_88 rfl rfl rfl ?_
                refine J_iconst (pc := 89) dX9_copy_89 ?_
                refine T_callVI (pc := 90) (As := [.int (iI 2)]) (k := 0) (st := []) ok_yX9_found lm_X9_104 dX9_copy_90 (by decide) rfl rfl (by decide) (Nat.le_of_ble_eq_true rfl) (m_X9_found m24 2) (fun r26 m25 em25 => ?_)
                exact T_retI (pc := 93) rfl dX9_copy_93
              · refine T_if_eq (pc := 69) (tgt := 88) dX9_copy_69 (by decide) (fun h27 => ?_) (fun h27 => ?_)
                · refine J_dropf (pc := 88) (L' := [some (.ref 0), none, none, none, none, none]) [true, false, false, false, false, false] rfl ?_
                  exact hk23  m21
                · refine J_aload_n (pc := 72) dX9_copy_72 rfl rfl rfl ?_
                  refine tg_X9_11 (pc := 73) rfl dX9_copy_73 ?_
                  refine J_iload_n (pc := 76) dX9_copy_76 rfl rfl ?_
                  refine T_aaload (pc := 77) (by decide) rfl rfl dX9_copy_77 (fun h28 => ?_)
                  refine J_iload (pc := 78) dX9_copy_78 rfl ?_
                  refine J_iload (pc := 80) dX9_copy_80 rfl ?_
                  refine T_callVI (pc := 82) (As := [.int (iI p3), .int (iI p4)]) (k := (38 + 2 * (w32 p2).toNat)) (st := []) ok_yX5_hasMany lm_X9_124 dX9_copy_82 (oRow_l (oRow_e h28)) (oRow_o (oRow_e h28)) rfl (by decide) (Nat.le_of_ble_eq_true rfl) (m_X5_hasMany m21 (38 + 2 * (w32 p2).toNat) p3 p4 (oRow_e h28)) (fun r30 m29 em29 => ?_)
                  refine T_if_ne (pc := 85) (tgt := 94) dX9_copy_85 (by decide) (fun h31 => ?_) (fun h31 => ?_)
                  · refine J_aload_n (pc := 94) dX9_copy_94 rfl rfl rfl ?_
                    refine tg_X9_11 (pc := 95) rfl dX9_copy_95 ?_
                    refine J_iload_n (pc := 98) dX9_copy_98 rfl rfl ?_
                    refine T_aaload (pc := 99) (by decide) rfl rfl dX9_copy_99 (fun h32 => ?_)
                    refine tg_X9_116 (pc := 100) (oRow_e h32) rfl dX9_copy_100 ?_
                    refine J_iload_n (pc := 103) dX9_copy_103 rfl rfl ?_
                    refine J_aload_n (pc := 104) dX9_copy_104 rfl rfl rfl ?_
                    refine tg_X9_11 (pc := 105) rfl dX9_copy_105 ?_
                    refine J_iload_n (pc := 108) dX9_copy_108 rfl rfl ?_
                    refine T_aaload (pc := 109) (by decide) rfl rfl dX9_copy_109 (fun h33 => ?_)
                    refine tg_X9_116 (pc := 110) (oRow_e h33) rfl dX9_copy_110 ?_
                    refine J_iload (pc := 113) dX9_copy_113 rfl ?_
                    refine J_iload (pc := 115) dX9_copy_115 rfl ?_
                    refine T_copy (pc := 117) (by decide) lm_X9_128 (Nat.le_of_ble_eq_true rfl) (oRow_l1 (oRow_e h32)) (oRow_a1 (oRow_e h32)) (oRow_l1 (oRow_e h33)) (oRow_a1 (oRow_e h33)) dX9_copy_117 ?_
                    refine T_vm (fun m34 em34 => ?_)
                    refine J_iconst (pc := 120) dX9_copy_120 ?_
                    exact T_retI (pc := 121) rfl dX9_copy_121
                  · refine J_dropf (pc := 88) (L' := [some (.ref 0), none, none, none, none, none]) [true, false, false, false, false, false] rfl ?_
                    exact hk23  m29
            · refine J_dropf (pc := 51) (L' := [some (.ref 0), none, none, none, none, none]) [true, false, false, false, false, false] rfl ?_
              exact hk11  m17
      · refine J_aload_n (pc := 21) dX9_copy_21 rfl rfl rfl ?_
        refine J_iconst (pc := 22) dX9_copy_22 ?_
        refine T_callVI (pc := 23) (As := [.int (iI 5)]) (k := 0) (st := []) ok_yX9_found lm_X9_104 dX9_copy_23 (by decide) rfl rfl (by decide) (Nat.le_of_ble_eq_true rfl) (m_X9_found m4 5) (fun r36 m35 em35 => ?_)
        exact T_retI (pc := 26) rfl dX9_copy_26
    · refine J_iconst (pc := 14) dX9_copy_14 ?_
      exact T_retI (pc := 15) rfl dX9_copy_15
def f_X5_sum_L4 (t : Nat) : Nat → Int → Int → Mem → Option (Int × Mem)
  | 0, _, _, _ => none
  | u + 1, i1, i3, mu4 => if w32 i3 < w32 (mu4 t 1) then (ck i3 40 (vl (i1 + (w32 (mu4 (t + 1) (w32 i3).toNat))) fun x3 => f_X5_sum_L4 t u x3 (i3 + 1) mu4)) else (some (i1, mu4))
set_option maxRecDepth 40000 in
theorem j_X5_sum_L4 {l : Launch} {G : qG} {t : Nat} (ht : oRow t) : ∀ (u : Nat) (i1 : Int) (i3 : Int) (mu4 : Mem), qJ l G yX5_sum cX5_sum 4 (some .long) 1 4 [some (.ref t), some (.long (iL i1)), none, some (.int (iI i3))] [] (lay mu4) (lf eL (f_X5_sum_L4 t u i1 i3 mu4)) := by
  intro u
  induction u with
  | zero => intro _ _ mu4; exact T_none
  | succ u ih =>
    intro i1 i3 mu4
    rw [f_X5_sum_L4]
    refine J_iload_n (pc := 4) dX5_sum_4 rfl rfl ?_
    refine J_aload_n (pc := 5) dX5_sum_5 rfl rfl rfl ?_
    refine tg_X5_15 (pc := 6) ht rfl dX5_sum_6 ?_
    refine T_icmp_ge (pc := 9) (tgt := 28) dX5_sum_9 (by decide) (fun h1 => ?_) (fun h1 => ?_)
    · refine J_lload_n (pc := 28) dX5_sum_28 rfl rfl ?_
      exact T_retL (pc := 29) rfl dX5_sum_29
    · refine J_lload_n (pc := 12) dX5_sum_12 rfl rfl ?_
      refine J_aload_n (pc := 13) dX5_sum_13 rfl rfl rfl ?_
      refine tg_X5_9 (pc := 14) ht rfl dX5_sum_14 ?_
      refine J_iload_n (pc := 17) dX5_sum_17 rfl rfl ?_
      refine T_iaload (pc := 18) (oRow_l1 ht) (oRow_a1 ht) dX5_sum_18 (fun h2 => ?_)
      refine J_i2l (pc := 19) dX5_sum_19 ?_
      refine J_ladd (pc := 20) dX5_sum_20 ?_
      refine T_vlL (pc := 21) (fun x3 ex3 => ?_)
      refine J_lstore_n (pc := 21) (L' := [some (.ref t), some (.long (iL x3)), none, some (.int (iI i3))]) dX5_sum_21 rfl (by decide) rfl rfl ?_
      refine J_iinc (pc := 22) (L' := [some (.ref t), some (.long (iL x3)), none, some (.int (iI (i3 + 1)))]) dX5_sum_22 rfl (by decide) rfl rfl ?_
      refine J_goto (pc := 25) (tgt := 4) dX5_sum_25 (by decide) ?_
      exact ih x3 (i3 + 1) mu4
def f_X5_sum (m0 : Mem) (t : Nat) : Option (Int × Mem) := f_X5_sum_L4 t 100000 0 0 m0
set_option maxRecDepth 40000 in
theorem m_X5_sum {l : Launch} {G : qG} (m0 : Mem) (t : Nat) (ht : oRow t) : qM l G 1 yX5_sum cX5_sum 4 (some .long) [.ref t] (lay m0) (lf eL (f_X5_sum m0 t)) := by
  refine qM_of (L := [some (.ref t), none, none, none]) (by decide +kernel) (Nat.le_of_ble_eq_true rfl) rfl ?_
  unfold f_X5_sum
  refine J_lconst (pc := 0) (z := 0) dX5_sum_0 (by decide) ?_
  refine J_lstore_n (pc := 1) (L' := [some (.ref t), some (.long (iL 0)), none, none]) dX5_sum_1 rfl (by decide) rfl rfl ?_
  refine J_iconst (pc := 2) dX5_sum_2 ?_
  refine J_istore_n (pc := 3) (L' := [some (.ref t), some (.long (iL 0)), none, some (.int (iI 0))]) dX5_sum_3 rfl (by decide) rfl rfl ?_
  refine j_X5_sum_L4 ht 100000 0 0 m0
def f_X9_mean (m0 : Mem) (p0 : Int) : Option (Int × Mem) := bd (f_X9_isRow m0 p0) fun r2 m1 => if w32 r2 = 0 then (some ((-1), m1)) else (ck p0 6 (bd (f_X5_isThere m1 (38 + 2 * (w32 p0).toNat)) fun r6 m5 => if w32 r6 = 0 then (bd (f_X9_found m5 1) fun r18 m17 => some (r18, m17)) else (ck p0 6 (vl (m5 (38 + 2 * (w32 p0).toNat) 1) fun x9 => if w32 x9 = 0 then (bd (f_X9_found m5 4) fun r16 m15 => some (r16, m15)) else (ck p0 6 (bd (f_X5_sum m5 (38 + 2 * (w32 p0).toNat)) fun r13 m12 => ckl (w32 x9) (vm (wr m12 0 13 (ydiv r13 (w32 x9))) fun m14 => some (1, m14))))))))
set_option maxRecDepth 40000 in
theorem m_X9_mean {l : Launch} {G : qG} (m0 : Mem) (p0 : Int) : qM l G 2 yX9_mean cX9_mean 3 (some .int) [.ref 0, .int (iI p0)] (lay m0) (lf eI (f_X9_mean m0 p0)) := by
  refine qM_of (L := [some (.ref 0), some (.int (iI p0)), none]) (by decide +kernel) (Nat.le_of_ble_eq_true rfl) rfl ?_
  unfold f_X9_mean
  refine J_iload_n (pc := 0) dX9_mean_0 rfl rfl ?_
  refine T_callSI (pc := 1) (As := [.int (iI p0)]) (st := []) ok_yX9_isRow lm_X9_100 dX9_mean_1 (by decide) (Nat.le_of_ble_eq_true rfl) (m_X9_isRow m0 p0) (fun r2 m1 em1 => ?_)
  refine T_if_ne (pc := 4) (tgt := 9) dX9_mean_4 (by decide) (fun h3 => ?_) (fun h3 => ?_)
  · refine J_aload_n (pc := 9) dX9_mean_9 rfl rfl rfl ?_
    refine tg_X9_11 (pc := 10) rfl dX9_mean_10 ?_
    refine J_iload_n (pc := 13) dX9_mean_13 rfl rfl ?_
    refine T_aaload (pc := 14) (by decide) rfl rfl dX9_mean_14 (fun h4 => ?_)
    refine T_callVI (pc := 15) (As := []) (k := (38 + 2 * (w32 p0).toNat)) (st := []) ok_yX5_isThere lm_X9_119 dX9_mean_15 (oRow_l (oRow_e h4)) (oRow_o (oRow_e h4)) rfl (by decide) (Nat.le_of_ble_eq_true rfl) (m_X5_isThere m1 (38 + 2 * (w32 p0).toNat) (oRow_e h4)) (fun r6 m5 em5 => ?_)
    refine T_if_ne (pc := 18) (tgt := 27) dX9_mean_18 (by decide) (fun h7 => ?_) (fun h7 => ?_)
    · refine J_aload_n (pc := 27) dX9_mean_27 rfl rfl rfl ?_
      refine tg_X9_11 (pc := 28) rfl dX9_mean_28 ?_
      refine J_iload_n (pc := 31) dX9_mean_31 rfl rfl ?_
      refine T_aaload (pc := 32) (by decide) rfl rfl dX9_mean_32 (fun h8 => ?_)
      refine tg_X9_123 (pc := 33) (oRow_e h8) rfl dX9_mean_33 ?_
      refine T_vlI (pc := 36) (fun x9 ex9 => ?_)
      refine J_istore_n (pc := 36) (L' := [some (.ref 0), some (.int (iI p0)), some (.int (iI x9))]) dX9_mean_36 rfl (by decide) rfl rfl ?_
      refine J_iload_n (pc := 37) dX9_mean_37 rfl rfl ?_
      refine T_if_ne (pc := 38) (tgt := 47) dX9_mean_38 (by decide) (fun h10 => ?_) (fun h10 => ?_)
      · refine J_aload_n (pc := 47) dX9_mean_47 rfl rfl rfl ?_
        refine J_aload_n (pc := 48) dX9_mean_48 rfl rfl rfl ?_
        refine tg_X9_11 (pc := 49) rfl dX9_mean_49 ?_
        refine J_iload_n (pc := 52) dX9_mean_52 rfl rfl ?_
        refine T_aaload (pc := 53) (by decide) rfl rfl dX9_mean_53 (fun h11 => ?_)
        refine T_callVL (pc := 54) (As := []) (k := (38 + 2 * (w32 p0).toNat)) (st := [.ref 0]) ok_yX5_sum lm_X9_134 dX9_mean_54 (oRow_l (oRow_e h11)) (oRow_o (oRow_e h11)) rfl (by decide) (Nat.le_of_ble_eq_true rfl) (m_X5_sum m5 (38 + 2 * (w32 p0).toNat) (oRow_e h11)) (fun r13 m12 em12 => ?_)
        refine J_iload_n (pc := 57) dX9_mean_57 rfl rfl ?_
        refine J_i2l (pc := 58) dX9_mean_58 ?_
        refine T_ldiv (pc := 59) dX9_mean_59 ?_
        refine J_l2i (pc := 60) dX9_mean_60 ?_
        refine tp_X9_85 (pc := 61) rfl dX9_mean_61 ?_
        refine T_vm (fun m14 em14 => ?_)
        refine J_iconst (pc := 64) dX9_mean_64 ?_
        exact T_retI (pc := 65) rfl dX9_mean_65
      · refine J_aload_n (pc := 41) dX9_mean_41 rfl rfl rfl ?_
        refine J_iconst (pc := 42) dX9_mean_42 ?_
        refine T_callVI (pc := 43) (As := [.int (iI 4)]) (k := 0) (st := []) ok_yX9_found lm_X9_104 dX9_mean_43 (by decide) rfl rfl (by decide) (Nat.le_of_ble_eq_true rfl) (m_X9_found m5 4) (fun r16 m15 em15 => ?_)
        exact T_retI (pc := 46) rfl dX9_mean_46
    · refine J_aload_n (pc := 21) dX9_mean_21 rfl rfl rfl ?_
      refine J_iconst (pc := 22) dX9_mean_22 ?_
      refine T_callVI (pc := 23) (As := [.int (iI 1)]) (k := 0) (st := []) ok_yX9_found lm_X9_104 dX9_mean_23 (by decide) rfl rfl (by decide) (Nat.le_of_ble_eq_true rfl) (m_X9_found m5 1) (fun r18 m17 em17 => ?_)
      exact T_retI (pc := 26) rfl dX9_mean_26
  · refine J_iconst (pc := 7) dX9_mean_7 ?_
    exact T_retI (pc := 8) rfl dX9_mean_8
def f_X9_isText (m0 : Mem) (p0 : Int) : Option (Int × Mem) := vl (if w32 p0 < 0 then 0 else (if w32 p0 < w32 4 then 1 else 0)) fun v1 => some (v1, m0)
set_option maxRecDepth 40000 in
theorem m_X9_isText {l : Launch} {G : qG} (m0 : Mem) (p0 : Int) : qM l G 1 yX9_isText cX9_isText 1 (some .boolean) [.int (iI p0)] (lay m0) (lf eI (f_X9_isText m0 p0)) := by
  refine qM_of (L := [some (.int (iI p0))]) (by decide +kernel) (Nat.le_of_ble_eq_true rfl) rfl ?_
  unfold f_X9_isText
  refine J_iload_n (pc := 0) dX9_isText_0 rfl rfl ?_
  refine T_vl (fun v1 ev1 => ?_)
  refine T_dia (j := 14) (v := v1) (LT := [some (.int (iI p0))]) (sT := []) ?_ (fun hj2 => ?_)
  · exact T_retZ (pc := 14) rfl (by rw [ev1]; repeat' (first | exact Or.inl rfl | exact Or.inr rfl | split)) dX9_isText_14
  · refine T_if_lt_same (pc := 1) (tgt := 13) dX9_isText_1 (by decide) (fun h3 => ?_) (fun h3 => ?_)
    · refine J_iconst (pc := 13) dX9_isText_13 ?_
      exact T_top (by rw [ev1, if_pos h3]) hj2
    · refine J_iload_n (pc := 4) dX9_isText_4 rfl rfl ?_
      refine J_iconst (pc := 5) dX9_isText_5 ?_
      refine T_icmp_ge_same (pc := 6) (tgt := 13) dX9_isText_6 (by decide) (fun h4 => ?_) (fun h4 => ?_)
      · refine J_iconst (pc := 13) dX9_isText_13 ?_
        exact T_top (by rw [ev1, if_neg h3, if_neg h4]) hj2
      · refine J_iconst (pc := 9) dX9_isText_9 ?_
        refine J_goto (pc := 10) (tgt := 14) dX9_isText_10 (by decide) ?_
        exact T_top (by rw [ev1, if_neg h3, if_pos h4]) hj2
def f_J7_fill_031fb_L5 (a0 : Nat) (n0 : Nat) (p1 : Int) (x1 : Int) : Nat → Int → Mem → Option (Unit × Mem)
  | 0, _, _ => none
  | u + 1, i2, mu5 => if w32 i2 < w32 x1 then (ck i2 n0 (vm (wr mu5 a0 (w32 i2).toNat (zi2b p1)) fun m4 => f_J7_fill_031fb_L5 a0 n0 p1 x1 u (i2 + 1) m4)) else (some ((), mu5))
set_option maxRecDepth 40000 in
theorem j_J7_fill_031fb_L5 {l : Launch} {G : qG} {a0 : Nat} {n0 : Nat} {p1 : Int} {x1 : Int} (ha0 : a0 < qN) (hs0 : shp a0 = .inr (.inl (1, n0))) : ∀ (u : Nat) (i2 : Int) (mu5 : Mem), qJ l G yJ7_fill_031fb cJ7_fill_031fb 4 none 1 5 [some (.ref a0), some (.int (iI p1)), some (.int (iI i2)), some (.int (iI x1))] [] (lay mu5) (lf eU (f_J7_fill_031fb_L5 a0 n0 p1 x1 u i2 mu5)) := by
  intro u
  induction u with
  | zero => intro _ mu5; exact T_none
  | succ u ih =>
    intro i2 mu5
    rw [f_J7_fill_031fb_L5]
    refine J_iload_n (pc := 5) dJ7_fill_031fb_5 rfl rfl ?_
    refine J_iload_n (pc := 6) dJ7_fill_031fb_6 rfl rfl ?_
    refine T_icmp_ge (pc := 7) (tgt := 20) dJ7_fill_031fb_7 (by decide) (fun h2 => ?_) (fun h2 => ?_)
    · exact T_retV (pc := 20) rfl dJ7_fill_031fb_20
    · refine J_aload_n (pc := 10) dJ7_fill_031fb_10 rfl rfl rfl ?_
      refine J_iload_n (pc := 11) dJ7_fill_031fb_11 rfl rfl ?_
      refine J_iload_n (pc := 12) dJ7_fill_031fb_12 rfl rfl ?_
      refine T_bastore (pc := 13) ha0 hs0 dJ7_fill_031fb_13 (fun h3 => ?_)
      refine T_vm (fun m4 em4 => ?_)
      refine J_iinc (pc := 14) (L' := [some (.ref a0), some (.int (iI p1)), some (.int (iI (i2 + 1))), some (.int (iI x1))]) dJ7_fill_031fb_14 rfl (by decide) rfl rfl ?_
      refine J_goto (pc := 17) (tgt := 5) dJ7_fill_031fb_17 (by decide) ?_
      exact ih (i2 + 1) m4
def f_J7_fill_031fb (m0 : Mem) (a0 : Nat) (n0 : Nat) (p1 : Int) : Option (Unit × Mem) := vl ((n0 : Int)) fun x1 => f_J7_fill_031fb_L5 a0 n0 p1 x1 100000 0 m0
set_option maxRecDepth 40000 in
theorem m_J7_fill_031fb {l : Launch} {G : qG} (m0 : Mem) (a0 : Nat) (n0 : Nat) (p1 : Int) (ha0 : a0 < qN) (hs0 : shp a0 = .inr (.inl (1, n0))) : qM l G 1 yJ7_fill_031fb cJ7_fill_031fb 4 none [.ref a0, .int (iI p1)] (lay m0) (lf eU (f_J7_fill_031fb m0 a0 n0 p1)) := by
  refine qM_of (L := [some (.ref a0), some (.int (iI p1)), none, none]) (by decide +kernel) (Nat.le_of_ble_eq_true rfl) rfl ?_
  unfold f_J7_fill_031fb
  refine J_iconst (pc := 0) dJ7_fill_031fb_0 ?_
  refine J_istore_n (pc := 1) (L' := [some (.ref a0), some (.int (iI p1)), some (.int (iI 0)), none]) dJ7_fill_031fb_1 rfl (by decide) rfl rfl ?_
  refine J_aload_n (pc := 2) dJ7_fill_031fb_2 rfl rfl rfl ?_
  refine T_alen (pc := 3) ha0 hs0 rfl dJ7_fill_031fb_3 ?_
  refine T_vlI (pc := 4) (fun x1 ex1 => ?_)
  refine J_istore_n (pc := 4) (L' := [some (.ref a0), some (.int (iI p1)), some (.int (iI 0)), some (.int (iI x1))]) dJ7_fill_031fb_4 rfl (by decide) rfl rfl ?_
  refine j_J7_fill_031fb_L5 ha0 hs0 100000 0 m0
def f_X7_begin (m0 : Mem) (t : Nat) (p0 : Int) : Option (Unit × Mem) := bd (f_J7_fill_031fb m0 (t + 1) 60 32) fun _u m1 => vm (wr m1 t 1 p0) fun m2 => some ((), m2)
set_option maxRecDepth 40000 in
theorem m_X7_begin {l : Launch} {G : qG} (m0 : Mem) (t : Nat) (p0 : Int) (ht : oText t) : qM l G 2 yX7_begin cX7_begin 2 none [.ref t, .int (iI p0)] (lay m0) (lf eU (f_X7_begin m0 t p0)) := by
  refine qM_of (L := [some (.ref t), some (.int (iI p0))]) (by decide +kernel) (Nat.le_of_ble_eq_true rfl) rfl ?_
  unfold f_X7_begin
  refine J_aload_n (pc := 0) dX7_begin_0 rfl rfl rfl ?_
  refine tg_X7_9 (pc := 1) ht rfl dX7_begin_1 ?_
  refine J_bipush (pc := 4) dX7_begin_4 (by decide) (by decide) ?_
  refine T_callSU (pc := 6) (As := [.ref (t + 1), .int (iI 32)]) (st := []) ok_yJ7_fill_031fb lm_X7_19 dX7_begin_6 (by decide) (Nat.le_of_ble_eq_true rfl) (m_J7_fill_031fb m0 (t + 1) 60 32 (oText_l1 ht) (oText_a1 ht)) (fun _u m1 em1 => ?_)
  refine J_aload_n (pc := 9) dX7_begin_9 rfl rfl rfl ?_
  refine J_iload_n (pc := 10) dX7_begin_10 rfl rfl ?_
  refine tp_X7_15 (pc := 11) ht rfl dX7_begin_11 ?_
  refine T_vm (fun m2 em2 => ?_)
  exact T_retV (pc := 14) rfl dX7_begin_14
def f_X9_text (m0 : Mem) (p0 : Int) (p1 : Int) : Option (Int × Mem) := bd (f_X9_isText m0 p0) fun r2 m1 => if w32 r2 = 0 then (some ((-1), m1)) else (if w32 60 < w32 p1 then (some ((-1), m1)) else (if w32 p1 < 0 then (bd (f_X9_found m1 5) fun r9 m8 => some (r9, m8)) else (ck p0 4 (bd (f_X7_begin m1 (50 + 2 * (w32 p0).toNat) p1) fun _u m7 => some (p1, m7)))))
set_option maxRecDepth 40000 in
theorem m_X9_text {l : Launch} {G : qG} (m0 : Mem) (p0 : Int) (p1 : Int) : qM l G 3 yX9_text cX9_text 3 (some .int) [.ref 0, .int (iI p0), .int (iI p1)] (lay m0) (lf eI (f_X9_text m0 p0 p1)) := by
  refine qM_of (L := [some (.ref 0), some (.int (iI p0)), some (.int (iI p1))]) (by decide +kernel) (Nat.le_of_ble_eq_true rfl) rfl ?_
  unfold f_X9_text
  refine J_iload_n (pc := 0) dX9_text_0 rfl rfl ?_
  refine T_callSI (pc := 1) (As := [.int (iI p0)]) (st := []) ok_yX9_isText lm_X9_138 dX9_text_1 (by decide) (Nat.le_of_ble_eq_true rfl) (m_X9_isText m0 p0) (fun r2 m1 em1 => ?_)
  refine T_if_eq (pc := 4) (tgt := 13) dX9_text_4 (by decide) (fun h3 => ?_) (fun h3 => ?_)
  · refine J_iconst (pc := 13) dX9_text_13 ?_
    exact T_retI (pc := 14) rfl dX9_text_14
  · refine J_iload_n (pc := 7) dX9_text_7 rfl rfl ?_
    refine J_bipush (pc := 8) dX9_text_8 (by decide) (by decide) ?_
    refine T_icmp_le (pc := 10) (tgt := 15) dX9_text_10 (by decide) (fun h4 => ?_) (fun h4 => ?_)
    · refine J_iload_n (pc := 15) dX9_text_15 rfl rfl ?_
      refine T_if_ge (pc := 16) (tgt := 25) dX9_text_16 (by decide) (fun h5 => ?_) (fun h5 => ?_)
      · refine J_aload_n (pc := 25) dX9_text_25 rfl rfl rfl ?_
        refine tg_X9_17 (pc := 26) rfl dX9_text_26 ?_
        refine J_iload_n (pc := 29) dX9_text_29 rfl rfl ?_
        refine T_aaload (pc := 30) (by decide) rfl rfl dX9_text_30 (fun h6 => ?_)
        refine J_iload_n (pc := 31) dX9_text_31 rfl rfl ?_
        refine T_callVU (pc := 32) (As := [.int (iI p1)]) (k := (50 + 2 * (w32 p0).toNat)) (st := []) ok_yX7_begin lm_X9_141 dX9_text_32 (oText_l (oText_e h6)) (oText_o (oText_e h6)) rfl (by decide) (Nat.le_of_ble_eq_true rfl) (m_X7_begin m1 (50 + 2 * (w32 p0).toNat) p1 (oText_e h6)) (fun _u m7 em7 => ?_)
        refine J_iload_n (pc := 35) dX9_text_35 rfl rfl ?_
        exact T_retI (pc := 36) rfl dX9_text_36
      · refine J_aload_n (pc := 19) dX9_text_19 rfl rfl rfl ?_
        refine J_iconst (pc := 20) dX9_text_20 ?_
        refine T_callVI (pc := 21) (As := [.int (iI 5)]) (k := 0) (st := []) ok_yX9_found lm_X9_104 dX9_text_21 (by decide) rfl rfl (by decide) (Nat.le_of_ble_eq_true rfl) (m_X9_found m1 5) (fun r9 m8 em8 => ?_)
        exact T_retI (pc := 24) rfl dX9_text_24
    · refine J_iconst (pc := 13) dX9_text_13 ?_
      exact T_retI (pc := 14) rfl dX9_text_14
def f_X7_isThere (m0 : Mem) (t : Nat) : Option (Int × Mem) := vl (if w32 (m0 t 1) < 0 then 0 else 1) fun v1 => some (v1, m0)
set_option maxRecDepth 40000 in
theorem m_X7_isThere {l : Launch} {G : qG} (m0 : Mem) (t : Nat) (ht : oText t) : qM l G 1 yX7_isThere cX7_isThere 1 (some .boolean) [.ref t] (lay m0) (lf eI (f_X7_isThere m0 t)) := by
  refine qM_of (L := [some (.ref t)]) (by decide +kernel) (Nat.le_of_ble_eq_true rfl) rfl ?_
  unfold f_X7_isThere
  refine J_aload_n (pc := 0) dX7_isThere_0 rfl rfl rfl ?_
  refine tg_X7_15 (pc := 1) ht rfl dX7_isThere_1 ?_
  refine T_vl (fun v1 ev1 => ?_)
  refine T_dia (j := 12) (v := v1) (LT := [some (.ref t)]) (sT := []) ?_ (fun hj2 => ?_)
  · exact T_retZ (pc := 12) rfl (by rw [ev1]; repeat' (first | exact Or.inl rfl | exact Or.inr rfl | split)) dX7_isThere_12
  · refine T_if_lt_same (pc := 4) (tgt := 11) dX7_isThere_4 (by decide) (fun h3 => ?_) (fun h3 => ?_)
    · refine J_iconst (pc := 11) dX7_isThere_11 ?_
      exact T_top (by rw [ev1, if_pos h3]) hj2
    · refine J_iconst (pc := 7) dX7_isThere_7 ?_
      refine J_goto (pc := 8) (tgt := 12) dX7_isThere_8 (by decide) ?_
      exact T_top (by rw [ev1, if_neg h3]) hj2
def f_X9_put (m0 : Mem) (p0 : Int) (p1 : Int) (p2 : Int) : Option (Int × Mem) := bd (f_X9_isText m0 p0) fun r2 m1 => if w32 r2 = 0 then (some ((-1), m1)) else (ck p0 4 (bd (f_X7_isThere m1 (50 + 2 * (w32 p0).toNat)) fun r6 m5 => if w32 r6 = 0 then (bd (f_X9_found m5 1) fun r22 m21 => some (r22, m21)) else (jn (κ := Mem → Option (Int × Mem)) (fun m9 => bd (f_X9_found m9 2) fun r11 m10 => some (r11, m10)) fun k8 => if w32 p1 < 0 then (k8 m5) else (ck p0 4 (if w32 p1 < w32 (m5 (50 + 2 * (w32 p0).toNat) 1) then (ck p0 4 (ck p1 60 (vl (m5 ((50 + 2 * (w32 p0).toNat) + 1) (w32 p1).toNat) fun x17 => ck p0 4 (ck p1 60 (vm (wr m5 ((50 + 2 * (w32 p0).toNat) + 1) (w32 p1).toNat (zi2b (zi2b p2))) fun m20 => some (x17 + 1000, m20)))))) else (k8 m5))))))
set_option maxRecDepth 40000 in
theorem m_X9_put {l : Launch} {G : qG} (m0 : Mem) (p0 : Int) (p1 : Int) (p2 : Int) : qM l G 2 yX9_put cX9_put 5 (some .int) [.ref 0, .int (iI p0), .int (iI p1), .int (iI p2)] (lay m0) (lf eI (f_X9_put m0 p0 p1 p2)) := by
  refine qM_of (L := [some (.ref 0), some (.int (iI p0)), some (.int (iI p1)), some (.int (iI p2)), none]) (by decide +kernel) (Nat.le_of_ble_eq_true rfl) rfl ?_
  unfold f_X9_put
  refine J_iload_n (pc := 0) dX9_put_0 rfl rfl ?_
  refine T_callSI (pc := 1) (As := [.int (iI p0)]) (st := []) ok_yX9_isText lm_X9_138 dX9_put_1 (by decide) (Nat.le_of_ble_eq_true rfl) (m_X9_isText m0 p0) (fun r2 m1 em1 => ?_)
  refine T_if_ne (pc := 4) (tgt := 9) dX9_put_4 (by decide) (fun h3 => ?_) (fun h3 => ?_)
  · refine J_aload_n (pc := 9) dX9_put_9 rfl rfl rfl ?_
    refine tg_X9_17 (pc := 10) rfl dX9_put_10 ?_
    refine J_iload_n (pc := 13) dX9_put_13 rfl rfl ?_
    refine T_aaload (pc := 14) (by decide) rfl rfl dX9_put_14 (fun h4 => ?_)
    refine T_callVI (pc := 15) (As := []) (k := (50 + 2 * (w32 p0).toNat)) (st := []) ok_yX7_isThere lm_X9_142 dX9_put_15 (oText_l (oText_e h4)) (oText_o (oText_e h4)) rfl (by decide) (Nat.le_of_ble_eq_true rfl) (m_X7_isThere m1 (50 + 2 * (w32 p0).toNat) (oText_e h4)) (fun r6 m5 em5 => ?_)
    refine T_if_ne (pc := 18) (tgt := 27) dX9_put_18 (by decide) (fun h7 => ?_) (fun h7 => ?_)
    · refine J_iload_n (pc := 27) dX9_put_27 rfl rfl ?_
      refine T_jn (κ := Mem → Option (Int × Mem)) (fun k => ∀ (m9 : Mem), qJ l G yX9_put cX9_put 5 (some .int) 2 44 [some (.ref 0), none, none, none, none] [] (lay m9) (lf eI (k m9))) ?_ (fun k8 hk8 => ?_)
      · intro m9
        refine J_aload_n (pc := 44) dX9_put_44 rfl rfl rfl ?_
        refine J_iconst (pc := 45) dX9_put_45 ?_
        refine T_callVI (pc := 46) (As := [.int (iI 2)]) (k := 0) (st := []) ok_yX9_found lm_X9_104 dX9_put_46 (by decide) rfl rfl (by decide) (Nat.le_of_ble_eq_true rfl) (m_X9_found m9 2) (fun r11 m10 em10 => ?_)
        exact T_retI (pc := 49) rfl dX9_put_49
      · refine T_if_lt (pc := 28) (tgt := 44) dX9_put_28 (by decide) (fun h12 => ?_) (fun h12 => ?_)
        · refine J_dropf (pc := 44) (L' := [some (.ref 0), none, none, none, none]) [true, false, false, false, false] rfl ?_
          exact hk8  m5
        · refine J_iload_n (pc := 31) dX9_put_31 rfl rfl ?_
          refine J_aload_n (pc := 32) dX9_put_32 rfl rfl rfl ?_
          refine tg_X9_17 (pc := 33) rfl dX9_put_33 ?_
          refine J_iload_n (pc := 36) dX9_put_36 rfl rfl ?_
          refine T_aaload (pc := 37) (by decide) rfl rfl dX9_put_37 (fun h13 => ?_)
          refine tg_X9_143 (pc := 38) (oText_e h13) rfl dX9_put_38 ?_
          refine T_icmp_lt (pc := 41) (tgt := 50) dX9_put_41 (by decide) (fun h14 => ?_) (fun h14 => ?_)
          · refine J_aload_n (pc := 50) dX9_put_50 rfl rfl rfl ?_
            refine tg_X9_17 (pc := 51) rfl dX9_put_51 ?_
            refine J_iload_n (pc := 54) dX9_put_54 rfl rfl ?_
            refine T_aaload (pc := 55) (by decide) rfl rfl dX9_put_55 (fun h15 => ?_)
            refine tg_X9_144 (pc := 56) (oText_e h15) rfl dX9_put_56 ?_
            refine J_iload_n (pc := 59) dX9_put_59 rfl rfl ?_
            refine T_baload (pc := 60) (oText_l1 (oText_e h15)) (oText_a1 (oText_e h15)) dX9_put_60 (fun h16 => ?_)
            refine T_vlI (pc := 61) (fun x17 ex17 => ?_)
            refine J_istore (pc := 61) (L' := [some (.ref 0), some (.int (iI p0)), some (.int (iI p1)), some (.int (iI p2)), some (.int (iI x17))]) dX9_put_61 (by decide) rfl rfl ?_
            refine J_aload_n (pc := 63) dX9_put_63 rfl rfl rfl ?_
            refine tg_X9_17 (pc := 64) rfl dX9_put_64 ?_
            refine J_iload_n (pc := 67) dX9_put_67 rfl rfl ?_
            refine T_aaload (pc := 68) (by decide) rfl rfl dX9_put_68 (fun h18 => ?_)
            refine tg_X9_144 (pc := 69) (oText_e h18) rfl dX9_put_69 ?_
            refine J_iload_n (pc := 72) dX9_put_72 rfl rfl ?_
            refine J_iload_n (pc := 73) dX9_put_73 rfl rfl ?_
            refine J_i2b (pc := 74) dX9_put_74 ?_
            refine T_bastore (pc := 75) (oText_l1 (oText_e h18)) (oText_a1 (oText_e h18)) dX9_put_75 (fun h19 => ?_)
            refine T_vm (fun m20 em20 => ?_)
            refine J_iload (pc := 76) dX9_put_76 rfl ?_
            refine J_sipush (pc := 78) dX9_put_78 (by decide) (by decide) ?_
            refine J_iadd (pc := 81) dX9_put_81 ?_
            exact T_retI (pc := 82) rfl dX9_put_82
          · refine J_dropf (pc := 44) (L' := [some (.ref 0), none, none, none, none]) [true, false, false, false, false] rfl ?_
            exact hk8  m5
    · refine J_aload_n (pc := 21) dX9_put_21 rfl rfl rfl ?_
      refine J_iconst (pc := 22) dX9_put_22 ?_
      refine T_callVI (pc := 23) (As := [.int (iI 1)]) (k := 0) (st := []) ok_yX9_found lm_X9_104 dX9_put_23 (by decide) rfl rfl (by decide) (Nat.le_of_ble_eq_true rfl) (m_X9_found m5 1) (fun r22 m21 em21 => ?_)
      exact T_retI (pc := 26) rfl dX9_put_26
  · refine J_iconst (pc := 7) dX9_put_7 ?_
    exact T_retI (pc := 8) rfl dX9_put_8
def f_X4_kindOf_L2 (p0 : Int) : Nat → Int → Mem → Option (Int × Mem)
  | 0, _, _ => none
  | u + 1, i1, mu2 => if w32 i1 < w32 6 then (ck i1 6 (if w32 (letZ (w32 i1).toNat) = w32 p0 then (some (i1, mu2)) else (f_X4_kindOf_L2 p0 u (i1 + 1) mu2))) else (some ((-9), mu2))
set_option maxRecDepth 40000 in
theorem j_X4_kindOf_L2 {l : Launch} {G : qG} {p0 : Int} : ∀ (u : Nat) (i1 : Int) (mu2 : Mem), qJ l G yX4_kindOf cX4_kindOf 2 (some .int) 1 2 [some (.int (iI p0)), some (.int (iI i1))] [] (lay mu2) (lf eI (f_X4_kindOf_L2 p0 u i1 mu2)) := by
  intro u
  induction u with
  | zero => intro _ mu2; exact T_none
  | succ u ih =>
    intro i1 mu2
    rw [f_X4_kindOf_L2]
    refine J_iload_n (pc := 2) dX4_kindOf_2 rfl rfl ?_
    refine J_bipush (pc := 3) dX4_kindOf_3 (by decide) (by decide) ?_
    refine T_icmp_ge (pc := 5) (tgt := 25) dX4_kindOf_5 (by decide) (fun h1 => ?_) (fun h1 => ?_)
    · refine J_bipush (pc := 25) dX4_kindOf_25 (by decide) (by decide) ?_
      exact T_retI (pc := 27) rfl dX4_kindOf_27
    · refine J_getstatic (pc := 8) (j := 1) (n := "LETTERS") dX4_kindOf_8 (by simp) (by simp [qnw, yX4_kindOf, RX4]) ?_
      refine J_iload_n (pc := 11) dX4_kindOf_11 rfl rfl ?_
      refine T_letters (pc := 12) dX4_kindOf_12 (fun h2 => ?_)
      refine J_iload_n (pc := 13) dX4_kindOf_13 rfl rfl ?_
      refine T_icmp_ne (pc := 14) (tgt := 19) dX4_kindOf_14 (by decide) (fun h3 => ?_) (fun h3 => ?_)
      · refine J_iinc (pc := 19) (L' := [some (.int (iI p0)), some (.int (iI (i1 + 1)))]) dX4_kindOf_19 rfl (by decide) rfl rfl ?_
        refine J_goto (pc := 22) (tgt := 2) dX4_kindOf_22 (by decide) ?_
        exact ih (i1 + 1) mu2
      · refine J_iload_n (pc := 17) dX4_kindOf_17 rfl rfl ?_
        exact T_retI (pc := 18) rfl dX4_kindOf_18
def f_X4_kindOf (m0 : Mem) (p0 : Int) : Option (Int × Mem) := f_X4_kindOf_L2 p0 100000 0 m0
set_option maxRecDepth 40000 in
theorem m_X4_kindOf {l : Launch} {G : qG} (m0 : Mem) (p0 : Int) : qM l G 1 yX4_kindOf cX4_kindOf 2 (some .int) [.int (iI p0)] (lay m0) (lf eI (f_X4_kindOf m0 p0)) := by
  refine qM_of (L := [some (.int (iI p0)), none]) (by decide +kernel) (Nat.le_of_ble_eq_true rfl) rfl ?_
  unfold f_X4_kindOf
  refine J_iconst (pc := 0) dX4_kindOf_0 ?_
  refine J_istore_n (pc := 1) (L' := [some (.int (iI p0)), some (.int (iI 0))]) dX4_kindOf_1 rfl (by decide) rfl rfl ?_
  refine j_X4_kindOf_L2 100000 0 m0
def f_X4_figureAt (m0 : Mem) (q0 : Nat) (p1 : Int) : Option (Int × Mem) := if w32 p1 < w32 (m0 q0 1) then (ck p1 60 (vl ((m0 (q0 + 1) (w32 p1).toNat) - 48) fun x3 => vl (if w32 x3 < 0 then (-9) else (if w32 9 < w32 x3 then (-9) else x3)) fun v4 => some (v4, m0))) else (some ((-9), m0))
set_option maxRecDepth 40000 in
theorem m_X4_figureAt {l : Launch} {G : qG} (m0 : Mem) (q0 : Nat) (p1 : Int) (hq0 : oText q0) : qM l G 1 yX4_figureAt cX4_figureAt 3 (some .int) [.ref q0, .int (iI p1)] (lay m0) (lf eI (f_X4_figureAt m0 q0 p1)) := by
  refine qM_of (L := [some (.ref q0), some (.int (iI p1)), none]) (by decide +kernel) (Nat.le_of_ble_eq_true rfl) rfl ?_
  unfold f_X4_figureAt
  refine J_iload_n (pc := 0) dX4_figureAt_0 rfl rfl ?_
  refine J_aload_n (pc := 1) dX4_figureAt_1 rfl rfl rfl ?_
  refine tg_X4_25 (pc := 2) hq0 rfl dX4_figureAt_2 ?_
  refine T_icmp_lt (pc := 5) (tgt := 11) dX4_figureAt_5 (by decide) (fun h1 => ?_) (fun h1 => ?_)
  · refine J_aload_n (pc := 11) dX4_figureAt_11 rfl rfl rfl ?_
    refine tg_X4_30 (pc := 12) hq0 rfl dX4_figureAt_12 ?_
    refine J_iload_n (pc := 15) dX4_figureAt_15 rfl rfl ?_
    refine T_baload (pc := 16) (oText_l1 hq0) (oText_a1 hq0) dX4_figureAt_16 (fun h2 => ?_)
    refine J_bipush (pc := 17) dX4_figureAt_17 (by decide) (by decide) ?_
    refine J_isub (pc := 19) dX4_figureAt_19 ?_
    refine T_vlI (pc := 20) (fun x3 ex3 => ?_)
    refine J_istore_n (pc := 20) (L' := [some (.ref q0), some (.int (iI p1)), some (.int (iI x3))]) dX4_figureAt_20 rfl (by decide) rfl rfl ?_
    refine J_iload_n (pc := 21) dX4_figureAt_21 rfl rfl ?_
    refine T_vl (fun v4 ev4 => ?_)
    refine T_dia (j := 37) (v := v4) (LT := [some (.ref q0), some (.int (iI p1)), some (.int (iI x3))]) (sT := []) ?_ (fun hj5 => ?_)
    · exact T_retI (pc := 37) rfl dX4_figureAt_37
    · refine T_if_lt_same (pc := 22) (tgt := 31) dX4_figureAt_22 (by decide) (fun h6 => ?_) (fun h6 => ?_)
      · refine J_bipush (pc := 31) dX4_figureAt_31 (by decide) (by decide) ?_
        refine J_goto (pc := 33) (tgt := 37) dX4_figureAt_33 (by decide) ?_
        exact T_top (by rw [ev4, if_pos h6]) hj5
      · refine J_iload_n (pc := 25) dX4_figureAt_25 rfl rfl ?_
        refine J_bipush (pc := 26) dX4_figureAt_26 (by decide) (by decide) ?_
        refine T_icmp_le_same (pc := 28) (tgt := 36) dX4_figureAt_28 (by decide) (fun h7 => ?_) (fun h7 => ?_)
        · refine J_iload_n (pc := 36) dX4_figureAt_36 rfl rfl ?_
          exact T_top (by rw [ev4, if_neg h6, if_neg h7]) hj5
        · refine J_bipush (pc := 31) dX4_figureAt_31 (by decide) (by decide) ?_
          refine J_goto (pc := 33) (tgt := 37) dX4_figureAt_33 (by decide) ?_
          exact T_top (by rw [ev4, if_neg h6, if_pos h7]) hj5
  · refine J_bipush (pc := 8) dX4_figureAt_8 (by decide) (by decide) ?_
    exact T_retI (pc := 10) rfl dX4_figureAt_10
def f_X4_faultInCape_L42 (K : Mem → Option (Int × Mem)) (q0 : Nat) (p1 : Int) (x3 : Int) : Nat → Int → Mem → Option (Int × Mem)
  | 0, _, _ => none
  | u + 1, i4, mu42 => if w32 i4 < w32 3 then (bd (f_X4_figureAt mu42 q0 (p1 + i4)) fun r11 m10 => if w32 r11 = w32 (-9) then (some (p1 + i4, m10)) else (ck (x3 + i4) 15 (vm (wr m10 4 (w32 (x3 + i4)).toNat r11) fun m14 => f_X4_faultInCape_L42 K q0 p1 x3 u (i4 + 1) m14))) else (K mu42)
set_option maxRecDepth 40000 in
theorem j_X4_faultInCape_L42 {l : Launch} {G : qG} {K : Mem → Option (Int × Mem)} {q0 : Nat} {p1 : Int} {x3 : Int} (hq0 : oText q0) (hK : ∀ (m : Mem), qJ l G yX4_faultInCape cX4_faultInCape 6 (some .int) 2 87 [some (.ref 3), none, none, none, none, none] [] (lay m) (lf eI (K m))) : ∀ (u : Nat) (i4 : Int) (mu42 : Mem), qJ l G yX4_faultInCape cX4_faultInCape 6 (some .int) 2 42 [some (.ref 3), some (.ref q0), some (.int (iI p1)), some (.int (iI x3)), some (.int (iI i4)), none] [] (lay mu42) (lf eI (f_X4_faultInCape_L42 K q0 p1 x3 u i4 mu42)) := by
  intro u
  induction u with
  | zero => intro _ mu42; exact T_none
  | succ u ih =>
    intro i4 mu42
    rw [f_X4_faultInCape_L42]
    refine J_iload (pc := 42) dX4_faultInCape_42 rfl ?_
    refine J_iconst (pc := 44) dX4_faultInCape_44 ?_
    refine T_icmp_ge (pc := 45) (tgt := 87) dX4_faultInCape_45 (by decide) (fun h9 => ?_) (fun h9 => ?_)
    · refine J_dropf (pc := 87) (L' := [some (.ref 3), none, none, none, none, none]) [true, false, false, false, false, false] rfl ?_
      exact hK  mu42
    · refine J_aload_n (pc := 48) dX4_faultInCape_48 rfl rfl rfl ?_
      refine J_iload_n (pc := 49) dX4_faultInCape_49 rfl rfl ?_
      refine J_iload (pc := 50) dX4_faultInCape_50 rfl ?_
      refine J_iadd (pc := 52) dX4_faultInCape_52 ?_
      refine T_callSI (pc := 53) (As := [.ref q0, .int (iI (p1 + i4))]) (st := []) ok_yX4_figureAt lm_X4_45 dX4_faultInCape_53 (by decide) (Nat.le_of_ble_eq_true rfl) (m_X4_figureAt mu42 q0 (p1 + i4) hq0) (fun r11 m10 em10 => ?_)
      refine J_istore (pc := 56) (L' := [some (.ref 3), some (.ref q0), some (.int (iI p1)), some (.int (iI x3)), some (.int (iI i4)), some (.int (iI r11))]) dX4_faultInCape_56 (by decide) rfl rfl ?_
      refine J_iload (pc := 58) dX4_faultInCape_58 rfl ?_
      refine J_bipush (pc := 60) dX4_faultInCape_60 (by decide) (by decide) ?_
      refine T_icmp_ne (pc := 62) (tgt := 70) dX4_faultInCape_62 (by decide) (fun h12 => ?_) (fun h12 => ?_)
      · refine J_aload_n (pc := 70) dX4_faultInCape_70 rfl rfl rfl ?_
        refine tg_X4_9 (pc := 71) rfl dX4_faultInCape_71 ?_
        refine J_iload_n (pc := 74) dX4_faultInCape_74 rfl rfl ?_
        refine J_iload (pc := 75) dX4_faultInCape_75 rfl ?_
        refine J_iadd (pc := 77) dX4_faultInCape_77 ?_
        refine J_iload (pc := 78) dX4_faultInCape_78 rfl ?_
        refine T_iastore (pc := 80) (by decide) rfl dX4_faultInCape_80 (fun h13 => ?_)
        refine T_vm (fun m14 em14 => ?_)
        refine J_iinc (pc := 81) (L' := [some (.ref 3), some (.ref q0), some (.int (iI p1)), some (.int (iI x3)), some (.int (iI (i4 + 1))), some (.int (iI r11))]) dX4_faultInCape_81 rfl (by decide) rfl rfl ?_
        refine J_goto (pc := 84) (tgt := 42) dX4_faultInCape_84 (by decide) ?_
        refine J_dropf (pc := 42) (L' := [some (.ref 3), some (.ref q0), some (.int (iI p1)), some (.int (iI x3)), some (.int (iI (i4 + 1))), none]) [true, true, true, true, true, false] rfl ?_
        exact ih (i4 + 1) m14
      · refine J_iload_n (pc := 65) dX4_faultInCape_65 rfl rfl ?_
        refine J_iload (pc := 66) dX4_faultInCape_66 rfl ?_
        refine J_iadd (pc := 68) dX4_faultInCape_68 ?_
        exact T_retI (pc := 69) rfl dX4_faultInCape_69
def f_X4_faultInCape (m0 : Mem) (q0 : Nat) (p1 : Int) : Option (Int × Mem) := if w32 (m0 3 2) < w32 5 then (if 0 < w32 (m0 3 3) then (some (p1, m0)) else (vl ((m0 3 2) * 3) fun x3 => ck p1 60 (bd (f_X4_kindOf m0 (m0 (q0 + 1) (w32 p1).toNat)) fun r6 m5 => ck x3 15 (vm (wr m5 4 (w32 x3).toNat r6) fun m8 => f_X4_faultInCape_L42 (fun m15 => vm (wr m15 3 2 ((m15 3 2) + 1)) fun m16 => some ((-9), m16)) q0 p1 x3 100000 1 m8)))) else (some (p1, m0))
set_option maxRecDepth 40000 in
theorem m_X4_faultInCape {l : Launch} {G : qG} (m0 : Mem) (q0 : Nat) (p1 : Int) (hq0 : oText q0) : qM l G 2 yX4_faultInCape cX4_faultInCape 6 (some .int) [.ref 3, .ref q0, .int (iI p1)] (lay m0) (lf eI (f_X4_faultInCape m0 q0 p1)) := by
  refine qM_of (L := [some (.ref 3), some (.ref q0), some (.int (iI p1)), none, none, none]) (by decide +kernel) (Nat.le_of_ble_eq_true rfl) rfl ?_
  unfold f_X4_faultInCape
  refine J_aload_n (pc := 0) dX4_faultInCape_0 rfl rfl rfl ?_
  refine tg_X4_18 (pc := 1) rfl dX4_faultInCape_1 ?_
  refine J_iconst (pc := 4) dX4_faultInCape_4 ?_
  refine T_icmp_ge (pc := 5) (tgt := 15) dX4_faultInCape_5 (by decide) (fun h1 => ?_) (fun h1 => ?_)
  · refine J_iload_n (pc := 15) dX4_faultInCape_15 rfl rfl ?_
    exact T_retI (pc := 16) rfl dX4_faultInCape_16
  · refine J_aload_n (pc := 8) dX4_faultInCape_8 rfl rfl rfl ?_
    refine tg_X4_22 (pc := 9) rfl dX4_faultInCape_9 ?_
    refine T_if_le (pc := 12) (tgt := 17) dX4_faultInCape_12 (by decide) (fun h2 => ?_) (fun h2 => ?_)
    · refine J_aload_n (pc := 17) dX4_faultInCape_17 rfl rfl rfl ?_
      refine tg_X4_18 (pc := 18) rfl dX4_faultInCape_18 ?_
      refine J_iconst (pc := 21) dX4_faultInCape_21 ?_
      refine J_imul (pc := 22) dX4_faultInCape_22 ?_
      refine T_vlI (pc := 23) (fun x3 ex3 => ?_)
      refine J_istore_n (pc := 23) (L' := [some (.ref 3), some (.ref q0), some (.int (iI p1)), some (.int (iI x3)), none, none]) dX4_faultInCape_23 rfl (by decide) rfl rfl ?_
      refine J_aload_n (pc := 24) dX4_faultInCape_24 rfl rfl rfl ?_
      refine tg_X4_9 (pc := 25) rfl dX4_faultInCape_25 ?_
      refine J_iload_n (pc := 28) dX4_faultInCape_28 rfl rfl ?_
      refine J_aload_n (pc := 29) dX4_faultInCape_29 rfl rfl rfl ?_
      refine tg_X4_30 (pc := 30) hq0 rfl dX4_faultInCape_30 ?_
      refine J_iload_n (pc := 33) dX4_faultInCape_33 rfl rfl ?_
      refine T_baload (pc := 34) (oText_l1 hq0) (oText_a1 hq0) dX4_faultInCape_34 (fun h4 => ?_)
      refine T_callSI (pc := 35) (As := [.int (iI (m0 (q0 + 1) (w32 p1).toNat))]) (st := [.int (iI x3), .ref 4]) ok_yX4_kindOf lm_X4_34 dX4_faultInCape_35 (by decide) (Nat.le_of_ble_eq_true rfl) (m_X4_kindOf m0 (m0 (q0 + 1) (w32 p1).toNat)) (fun r6 m5 em5 => ?_)
      refine T_iastore (pc := 38) (by decide) rfl dX4_faultInCape_38 (fun h7 => ?_)
      refine T_vm (fun m8 em8 => ?_)
      refine J_iconst (pc := 39) dX4_faultInCape_39 ?_
      refine J_istore (pc := 40) (L' := [some (.ref 3), some (.ref q0), some (.int (iI p1)), some (.int (iI x3)), some (.int (iI 1)), none]) dX4_faultInCape_40 (by decide) rfl rfl ?_
      refine j_X4_faultInCape_L42 hq0 ?_ 100000 1 m8
      · intro m15
        refine J_aload_n (pc := 87) dX4_faultInCape_87 rfl rfl rfl ?_
        refine J_dup (pc := 88) dX4_faultInCape_88 rfl ?_
        refine tg_X4_18 (pc := 89) rfl dX4_faultInCape_89 ?_
        refine J_iconst (pc := 92) dX4_faultInCape_92 ?_
        refine J_iadd (pc := 93) dX4_faultInCape_93 ?_
        refine tp_X4_18 (pc := 94) rfl dX4_faultInCape_94 ?_
        refine T_vm (fun m16 em16 => ?_)
        refine J_bipush (pc := 97) dX4_faultInCape_97 (by decide) (by decide) ?_
        exact T_retI (pc := 99) rfl dX4_faultInCape_99
    · refine J_iload_n (pc := 15) dX4_faultInCape_15 rfl rfl ?_
      exact T_retI (pc := 16) rfl dX4_faultInCape_16
def f_X4_leastFigure (m0 : Mem) (p0 : Int) (p1 : Int) : Option (Int × Mem) := if w32 p1 = w32 1 then (some (0, m0)) else (if w32 p1 = w32 2 then (ck (p0 + 1) 16 (some (m0 5 (w32 (p0 + 1)).toNat, m0))) else (some (1, m0)))
set_option maxRecDepth 40000 in
theorem m_X4_leastFigure {l : Launch} {G : qG} (m0 : Mem) (p0 : Int) (p1 : Int) : qM l G 1 yX4_leastFigure cX4_leastFigure 3 (some .int) [.ref 3, .int (iI p0), .int (iI p1)] (lay m0) (lf eI (f_X4_leastFigure m0 p0 p1)) := by
  refine qM_of (L := [some (.ref 3), some (.int (iI p0)), some (.int (iI p1))]) (by decide +kernel) (Nat.le_of_ble_eq_true rfl) rfl ?_
  unfold f_X4_leastFigure
  refine J_iload_n (pc := 0) dX4_leastFigure_0 rfl rfl ?_
  refine J_iconst (pc := 1) dX4_leastFigure_1 ?_
  refine T_icmp_ne (pc := 2) (tgt := 7) dX4_leastFigure_2 (by decide) (fun h1 => ?_) (fun h1 => ?_)
  · refine J_iload_n (pc := 7) dX4_leastFigure_7 rfl rfl ?_
    refine J_iconst (pc := 8) dX4_leastFigure_8 ?_
    refine T_icmp_ne (pc := 9) (tgt := 23) dX4_leastFigure_9 (by decide) (fun h2 => ?_) (fun h2 => ?_)
    · refine J_iconst (pc := 23) dX4_leastFigure_23 ?_
      exact T_retI (pc := 24) rfl dX4_leastFigure_24
    · refine J_aload_n (pc := 12) dX4_leastFigure_12 rfl rfl rfl ?_
      refine tg_X4_15 (pc := 13) rfl dX4_leastFigure_13 ?_
      refine J_iload_n (pc := 16) dX4_leastFigure_16 rfl rfl ?_
      refine J_iconst (pc := 17) dX4_leastFigure_17 ?_
      refine J_iadd (pc := 18) dX4_leastFigure_18 ?_
      refine T_iaload (pc := 19) (by decide) rfl dX4_leastFigure_19 (fun h3 => ?_)
      refine J_goto (pc := 20) (tgt := 24) dX4_leastFigure_20 (by decide) ?_
      exact T_retI (pc := 24) rfl dX4_leastFigure_24
  · refine J_iconst (pc := 5) dX4_leastFigure_5 ?_
    exact T_retI (pc := 6) rfl dX4_leastFigure_6
def f_X4_faultInValley_L67 (K : Mem → Option (Int × Mem)) (q0 : Nat) (p1 : Int) (x7 : Int) : Nat → Int → Mem → Option (Int × Mem)
  | 0, _, _ => none
  | u + 1, i5, mu67 => if w32 i5 < w32 4 then (bd (f_X4_figureAt mu67 q0 (p1 + i5)) fun r14 m13 => bd (f_X4_leastFigure m13 x7 i5) fun r16 m15 => if w32 r14 < w32 r16 then (some (p1 + i5, m15)) else (vl (if w32 i5 = w32 3 then 9 else 7) fun v18 => if w32 v18 < w32 r14 then (some (p1 + i5, m15)) else (ck (x7 + i5) 16 (vm (wr m15 5 (w32 (x7 + i5)).toNat r14) fun m22 => f_X4_faultInValley_L67 K q0 p1 x7 u (i5 + 1) m22)))) else (K mu67)
set_option maxRecDepth 40000 in
theorem j_X4_faultInValley_L67 {l : Launch} {G : qG} {K : Mem → Option (Int × Mem)} {q0 : Nat} {p1 : Int} {x7 : Int} (hq0 : oText q0) (hK : ∀ (m : Mem), qJ l G yX4_faultInValley cX4_faultInValley 7 (some .int) 2 137 [some (.ref 3), none, none, none, none, none, none] [] (lay m) (lf eI (K m))) : ∀ (u : Nat) (i5 : Int) (mu67 : Mem), qJ l G yX4_faultInValley cX4_faultInValley 7 (some .int) 2 67 [some (.ref 3), some (.ref q0), some (.int (iI p1)), none, some (.int (iI x7)), some (.int (iI i5)), none] [] (lay mu67) (lf eI (f_X4_faultInValley_L67 K q0 p1 x7 u i5 mu67)) := by
  intro u
  induction u with
  | zero => intro _ mu67; exact T_none
  | succ u ih =>
    intro i5 mu67
    rw [f_X4_faultInValley_L67]
    refine J_iload (pc := 67) dX4_faultInValley_67 rfl ?_
    refine J_iconst (pc := 69) dX4_faultInValley_69 ?_
    refine T_icmp_ge (pc := 70) (tgt := 137) dX4_faultInValley_70 (by decide) (fun h12 => ?_) (fun h12 => ?_)
    · refine J_dropf (pc := 137) (L' := [some (.ref 3), none, none, none, none, none, none]) [true, false, false, false, false, false, false] rfl ?_
      exact hK  mu67
    · refine J_aload_n (pc := 73) dX4_faultInValley_73 rfl rfl rfl ?_
      refine J_iload_n (pc := 74) dX4_faultInValley_74 rfl rfl ?_
      refine J_iload (pc := 75) dX4_faultInValley_75 rfl ?_
      refine J_iadd (pc := 77) dX4_faultInValley_77 ?_
      refine T_callSI (pc := 78) (As := [.ref q0, .int (iI (p1 + i5))]) (st := []) ok_yX4_figureAt lm_X4_45 dX4_faultInValley_78 (by decide) (Nat.le_of_ble_eq_true rfl) (m_X4_figureAt mu67 q0 (p1 + i5) hq0) (fun r14 m13 em13 => ?_)
      refine J_istore (pc := 81) (L' := [some (.ref 3), some (.ref q0), some (.int (iI p1)), none, some (.int (iI x7)), some (.int (iI i5)), some (.int (iI r14))]) dX4_faultInValley_81 (by decide) rfl rfl ?_
      refine J_iload (pc := 83) dX4_faultInValley_83 rfl ?_
      refine J_aload_n (pc := 85) dX4_faultInValley_85 rfl rfl rfl ?_
      refine J_iload (pc := 86) dX4_faultInValley_86 rfl ?_
      refine J_iload (pc := 88) dX4_faultInValley_88 rfl ?_
      refine T_callVI (pc := 90) (As := [.int (iI x7), .int (iI i5)]) (k := 3) (st := [.int (iI r14)]) ok_yX4_leastFigure lm_X4_48 dX4_faultInValley_90 (by decide) rfl rfl (by decide) (Nat.le_of_ble_eq_true rfl) (m_X4_leastFigure m13 x7 i5) (fun r16 m15 em15 => ?_)
      refine T_icmp_lt (pc := 93) (tgt := 114) dX4_faultInValley_93 (by decide) (fun h17 => ?_) (fun h17 => ?_)
      · refine J_iload_n (pc := 114) dX4_faultInValley_114 rfl rfl ?_
        refine J_iload (pc := 115) dX4_faultInValley_115 rfl ?_
        refine J_iadd (pc := 117) dX4_faultInValley_117 ?_
        exact T_retI (pc := 118) rfl dX4_faultInValley_118
      · refine J_iload (pc := 96) dX4_faultInValley_96 rfl ?_
        refine J_iload (pc := 98) dX4_faultInValley_98 rfl ?_
        refine J_iconst (pc := 100) dX4_faultInValley_100 ?_
        refine T_vl (fun v18 ev18 => ?_)
        refine T_dia (j := 111) (v := v18) (LT := [some (.ref 3), some (.ref q0), some (.int (iI p1)), none, some (.int (iI x7)), some (.int (iI i5)), some (.int (iI r14))]) (sT := [.int (iI r14)]) ?_ (fun hj19 => ?_)
        · refine T_icmp_le (pc := 111) (tgt := 119) dX4_faultInValley_111 (by decide) (fun h20 => ?_) (fun h20 => ?_)
          · refine J_aload_n (pc := 119) dX4_faultInValley_119 rfl rfl rfl ?_
            refine tg_X4_15 (pc := 120) rfl dX4_faultInValley_120 ?_
            refine J_iload (pc := 123) dX4_faultInValley_123 rfl ?_
            refine J_iload (pc := 125) dX4_faultInValley_125 rfl ?_
            refine J_iadd (pc := 127) dX4_faultInValley_127 ?_
            refine J_iload (pc := 128) dX4_faultInValley_128 rfl ?_
            refine T_iastore (pc := 130) (by decide) rfl dX4_faultInValley_130 (fun h21 => ?_)
            refine T_vm (fun m22 em22 => ?_)
            refine J_iinc (pc := 131) (L' := [some (.ref 3), some (.ref q0), some (.int (iI p1)), none, some (.int (iI x7)), some (.int (iI (i5 + 1))), some (.int (iI r14))]) dX4_faultInValley_131 rfl (by decide) rfl rfl ?_
            refine J_goto (pc := 134) (tgt := 67) dX4_faultInValley_134 (by decide) ?_
            refine J_dropf (pc := 67) (L' := [some (.ref 3), some (.ref q0), some (.int (iI p1)), none, some (.int (iI x7)), some (.int (iI (i5 + 1))), none]) [true, true, true, false, true, true, false] rfl ?_
            exact ih (i5 + 1) m22
          · refine J_iload_n (pc := 114) dX4_faultInValley_114 rfl rfl ?_
            refine J_iload (pc := 115) dX4_faultInValley_115 rfl ?_
            refine J_iadd (pc := 117) dX4_faultInValley_117 ?_
            exact T_retI (pc := 118) rfl dX4_faultInValley_118
        · refine T_icmp_ne_same (pc := 101) (tgt := 109) dX4_faultInValley_101 (by decide) (fun h23 => ?_) (fun h23 => ?_)
          · refine J_bipush (pc := 109) dX4_faultInValley_109 (by decide) (by decide) ?_
            exact T_top (by rw [ev18, if_neg h23]) hj19
          · refine J_bipush (pc := 104) dX4_faultInValley_104 (by decide) (by decide) ?_
            refine J_goto (pc := 106) (tgt := 111) dX4_faultInValley_106 (by decide) ?_
            exact T_top (by rw [ev18, if_pos h23]) hj19
def f_X4_faultInValley (m0 : Mem) (q0 : Nat) (p1 : Int) : Option (Int × Mem) := ck p1 60 (vl (m0 (q0 + 1) (w32 p1).toNat) fun x2 => jn (κ := Mem → Option (Int × Mem)) (fun m4 => if w32 (m4 3 2) = 0 then (some (p1, m4)) else (if w32 (m4 3 3) < w32 4 then (vl ((m4 3 3) * 4) fun x7 => vl (if w32 x2 = w32 118 then 1 else 0) fun v8 => ck x7 16 (vm (wr m4 5 (w32 x7).toNat v8) fun m11 => f_X4_faultInValley_L67 (fun m24 => vm (wr m24 3 3 ((m24 3 3) + 1)) fun m25 => some ((-9), m25)) q0 p1 x7 100000 1 m11)) else (some (p1, m4)))) fun k3 => if w32 x2 = w32 118 then (k3 m0) else (if w32 x2 = w32 100 then (k3 m0) else (some (p1, m0))))
set_option maxRecDepth 40000 in
theorem m_X4_faultInValley {l : Launch} {G : qG} (m0 : Mem) (q0 : Nat) (p1 : Int) (hq0 : oText q0) : qM l G 2 yX4_faultInValley cX4_faultInValley 7 (some .int) [.ref 3, .ref q0, .int (iI p1)] (lay m0) (lf eI (f_X4_faultInValley m0 q0 p1)) := by
  refine qM_of (L := [some (.ref 3), some (.ref q0), some (.int (iI p1)), none, none, none, none]) (by decide +kernel) (Nat.le_of_ble_eq_true rfl) rfl ?_
  unfold f_X4_faultInValley
  refine J_aload_n (pc := 0) dX4_faultInValley_0 rfl rfl rfl ?_
  refine tg_X4_30 (pc := 1) hq0 rfl dX4_faultInValley_1 ?_
  refine J_iload_n (pc := 4) dX4_faultInValley_4 rfl rfl ?_
  refine T_baload (pc := 5) (oText_l1 hq0) (oText_a1 hq0) dX4_faultInValley_5 (fun h1 => ?_)
  refine T_vlI (pc := 6) (fun x2 ex2 => ?_)
  refine J_istore_n (pc := 6) (L' := [some (.ref 3), some (.ref q0), some (.int (iI p1)), some (.int (iI x2)), none, none, none]) dX4_faultInValley_6 rfl (by decide) rfl rfl ?_
  refine J_iload_n (pc := 7) dX4_faultInValley_7 rfl rfl ?_
  refine J_bipush (pc := 8) dX4_faultInValley_8 (by decide) (by decide) ?_
  refine T_jn (κ := Mem → Option (Int × Mem)) (fun k => ∀ (m4 : Mem), qJ l G yX4_faultInValley cX4_faultInValley 7 (some .int) 2 21 [some (.ref 3), some (.ref q0), some (.int (iI p1)), some (.int (iI x2)), none, none, none] [] (lay m4) (lf eI (k m4))) ?_ (fun k3 hk3 => ?_)
  · intro m4
    refine J_aload_n (pc := 21) dX4_faultInValley_21 rfl rfl rfl ?_
    refine tg_X4_18 (pc := 22) rfl dX4_faultInValley_22 ?_
    refine T_if_eq (pc := 25) (tgt := 36) dX4_faultInValley_25 (by decide) (fun h5 => ?_) (fun h5 => ?_)
    · refine J_iload_n (pc := 36) dX4_faultInValley_36 rfl rfl ?_
      exact T_retI (pc := 37) rfl dX4_faultInValley_37
    · refine J_aload_n (pc := 28) dX4_faultInValley_28 rfl rfl rfl ?_
      refine tg_X4_22 (pc := 29) rfl dX4_faultInValley_29 ?_
      refine J_iconst (pc := 32) dX4_faultInValley_32 ?_
      refine T_icmp_lt (pc := 33) (tgt := 38) dX4_faultInValley_33 (by decide) (fun h6 => ?_) (fun h6 => ?_)
      · refine J_aload_n (pc := 38) dX4_faultInValley_38 rfl rfl rfl ?_
        refine tg_X4_22 (pc := 39) rfl dX4_faultInValley_39 ?_
        refine J_iconst (pc := 42) dX4_faultInValley_42 ?_
        refine J_imul (pc := 43) dX4_faultInValley_43 ?_
        refine T_vlI (pc := 44) (fun x7 ex7 => ?_)
        refine J_istore (pc := 44) (L' := [some (.ref 3), some (.ref q0), some (.int (iI p1)), some (.int (iI x2)), some (.int (iI x7)), none, none]) dX4_faultInValley_44 (by decide) rfl rfl ?_
        refine J_aload_n (pc := 46) dX4_faultInValley_46 rfl rfl rfl ?_
        refine tg_X4_15 (pc := 47) rfl dX4_faultInValley_47 ?_
        refine J_iload (pc := 50) dX4_faultInValley_50 rfl ?_
        refine J_iload_n (pc := 52) dX4_faultInValley_52 rfl rfl ?_
        refine J_bipush (pc := 53) dX4_faultInValley_53 (by decide) (by decide) ?_
        refine T_vl (fun v8 ev8 => ?_)
        refine T_dia (j := 63) (v := v8) (LT := [some (.ref 3), some (.ref q0), some (.int (iI p1)), some (.int (iI x2)), some (.int (iI x7)), none, none]) (sT := [.int (iI x7), .ref 5]) ?_ (fun hj9 => ?_)
        · refine T_iastore (pc := 63) (by decide) rfl dX4_faultInValley_63 (fun h10 => ?_)
          refine T_vm (fun m11 em11 => ?_)
          refine J_iconst (pc := 64) dX4_faultInValley_64 ?_
          refine J_istore (pc := 65) (L' := [some (.ref 3), some (.ref q0), some (.int (iI p1)), some (.int (iI x2)), some (.int (iI x7)), some (.int (iI 1)), none]) dX4_faultInValley_65 (by decide) rfl rfl ?_
          refine J_dropf (pc := 67) (L' := [some (.ref 3), some (.ref q0), some (.int (iI p1)), none, some (.int (iI x7)), some (.int (iI 1)), none]) [true, true, true, false, true, true, false] rfl ?_
          refine j_X4_faultInValley_L67 hq0 ?_ 100000 1 m11
          · intro m24
            refine J_aload_n (pc := 137) dX4_faultInValley_137 rfl rfl rfl ?_
            refine J_dup (pc := 138) dX4_faultInValley_138 rfl ?_
            refine tg_X4_22 (pc := 139) rfl dX4_faultInValley_139 ?_
            refine J_iconst (pc := 142) dX4_faultInValley_142 ?_
            refine J_iadd (pc := 143) dX4_faultInValley_143 ?_
            refine tp_X4_22 (pc := 144) rfl dX4_faultInValley_144 ?_
            refine T_vm (fun m25 em25 => ?_)
            refine J_bipush (pc := 147) dX4_faultInValley_147 (by decide) (by decide) ?_
            exact T_retI (pc := 149) rfl dX4_faultInValley_149
        · refine T_icmp_ne_same (pc := 55) (tgt := 62) dX4_faultInValley_55 (by decide) (fun h26 => ?_) (fun h26 => ?_)
          · refine J_iconst (pc := 62) dX4_faultInValley_62 ?_
            exact T_top (by rw [ev8, if_neg h26]) hj9
          · refine J_iconst (pc := 58) dX4_faultInValley_58 ?_
            refine J_goto (pc := 59) (tgt := 63) dX4_faultInValley_59 (by decide) ?_
            exact T_top (by rw [ev8, if_pos h26]) hj9
      · refine J_iload_n (pc := 36) dX4_faultInValley_36 rfl rfl ?_
        exact T_retI (pc := 37) rfl dX4_faultInValley_37
  · refine T_icmp_eq (pc := 10) (tgt := 21) dX4_faultInValley_10 (by decide) (fun h27 => ?_) (fun h27 => ?_)
    · exact hk3  m0
    · refine J_iload_n (pc := 13) dX4_faultInValley_13 rfl rfl ?_
      refine J_bipush (pc := 14) dX4_faultInValley_14 (by decide) (by decide) ?_
      refine T_icmp_eq (pc := 16) (tgt := 21) dX4_faultInValley_16 (by decide) (fun h28 => ?_) (fun h28 => ?_)
      · exact hk3  m0
      · refine J_iload_n (pc := 19) dX4_faultInValley_19 rfl rfl ?_
        exact T_retI (pc := 20) rfl dX4_faultInValley_20
def f_X4_faultIn_L12 (K : Mem → Option (Int × Mem)) (q0 : Nat) : Nat → Int → Mem → Option (Int × Mem)
  | 0, _, _ => none
  | u + 1, i2, mu12 => if w32 i2 < w32 (mu12 q0 1) then (ck i2 60 (vl (mu12 (q0 + 1) (w32 i2).toNat) fun x5 => if w32 x5 = w32 32 then (f_X4_faultIn_L12 K q0 u (i2 + 1) mu12) else (bd (f_X4_kindOf mu12 x5) fun r8 m7 => vl (if w32 r8 = w32 (-9) then 0 else 1) fun v9 => jn (κ := Int → Mem → Option (Int × Mem)) (fun s13 m12 => if w32 s13 = w32 (-9) then (vl (if w32 v9 = 0 then 4 else 3) fun v15 => vl (i2 + v15) fun x17 => f_X4_faultIn_L12 K q0 u x17 m12) else (some (s13, m12))) fun k11 => if w32 v9 = 0 then (bd (f_X4_faultInValley m7 q0 i2) fun r21 m20 => k11 r21 m20) else (bd (f_X4_faultInCape m7 q0 i2) fun r23 m22 => k11 r23 m22)))) else (K mu12)
set_option maxRecDepth 40000 in
theorem j_X4_faultIn_L12 {l : Launch} {G : qG} {K : Mem → Option (Int × Mem)} {q0 : Nat} (hq0 : oText q0) (hK : ∀ (m : Mem), qJ l G yX4_faultIn cX4_faultIn 6 (some .int) 3 103 [some (.ref 3), some (.ref q0), none, none, none, none] [] (lay m) (lf eI (K m))) : ∀ (u : Nat) (i2 : Int) (mu12 : Mem), qJ l G yX4_faultIn cX4_faultIn 6 (some .int) 3 12 [some (.ref 3), some (.ref q0), some (.int (iI i2)), none, none, none] [] (lay mu12) (lf eI (f_X4_faultIn_L12 K q0 u i2 mu12)) := by
  intro u
  induction u with
  | zero => intro _ mu12; exact T_none
  | succ u ih =>
    intro i2 mu12
    rw [f_X4_faultIn_L12]
    refine J_iload_n (pc := 12) dX4_faultIn_12 rfl rfl ?_
    refine J_aload_n (pc := 13) dX4_faultIn_13 rfl rfl rfl ?_
    refine tg_X4_25 (pc := 14) hq0 rfl dX4_faultIn_14 ?_
    refine T_icmp_ge (pc := 17) (tgt := 103) dX4_faultIn_17 (by decide) (fun h3 => ?_) (fun h3 => ?_)
    · refine J_dropf (pc := 103) (L' := [some (.ref 3), some (.ref q0), none, none, none, none]) [true, true, false, false, false, false] rfl ?_
      exact hK  mu12
    · refine J_aload_n (pc := 20) dX4_faultIn_20 rfl rfl rfl ?_
      refine tg_X4_30 (pc := 21) hq0 rfl dX4_faultIn_21 ?_
      refine J_iload_n (pc := 24) dX4_faultIn_24 rfl rfl ?_
      refine T_baload (pc := 25) (oText_l1 hq0) (oText_a1 hq0) dX4_faultIn_25 (fun h4 => ?_)
      refine T_vlI (pc := 26) (fun x5 ex5 => ?_)
      refine J_istore_n (pc := 26) (L' := [some (.ref 3), some (.ref q0), some (.int (iI i2)), some (.int (iI x5)), none, none]) dX4_faultIn_26 rfl (by decide) rfl rfl ?_
      refine J_iload_n (pc := 27) dX4_faultIn_27 rfl rfl ?_
      refine J_bipush (pc := 28) dX4_faultIn_28 (by decide) (by decide) ?_
      refine T_icmp_ne (pc := 30) (tgt := 39) dX4_faultIn_30 (by decide) (fun h6 => ?_) (fun h6 => ?_)
      · refine J_iload_n (pc := 39) dX4_faultIn_39 rfl rfl ?_
        refine T_callSI (pc := 40) (As := [.int (iI x5)]) (st := []) ok_yX4_kindOf lm_X4_34 dX4_faultIn_40 (by decide) (Nat.le_of_ble_eq_true rfl) (m_X4_kindOf mu12 x5) (fun r8 m7 em7 => ?_)
        refine J_bipush (pc := 43) dX4_faultIn_43 (by decide) (by decide) ?_
        refine T_vl (fun v9 ev9 => ?_)
        refine T_dia (j := 53) (v := v9) (LT := [some (.ref 3), some (.ref q0), some (.int (iI i2)), some (.int (iI x5)), none, none]) (sT := []) ?_ (fun hj10 => ?_)
        · refine J_istore (pc := 53) (L' := [some (.ref 3), some (.ref q0), some (.int (iI i2)), some (.int (iI x5)), some (.int (iI v9)), none]) dX4_faultIn_53 (by decide) rfl rfl ?_
          refine J_iload (pc := 55) dX4_faultIn_55 rfl ?_
          refine T_jn (κ := Int → Mem → Option (Int × Mem)) (fun k => ∀ (s13 : Int) (m12 : Mem), qJ l G yX4_faultIn cX4_faultIn 6 (some .int) 3 75 [some (.ref 3), some (.ref q0), some (.int (iI i2)), none, some (.int (iI v9)), none] [.int (iI s13)] (lay m12) (lf eI (k s13 m12))) ?_ (fun k11 hk11 => ?_)
          · intro s13 m12
            refine J_istore (pc := 75) (L' := [some (.ref 3), some (.ref q0), some (.int (iI i2)), none, some (.int (iI v9)), some (.int (iI s13))]) dX4_faultIn_75 (by decide) rfl rfl ?_
            refine J_iload (pc := 77) dX4_faultIn_77 rfl ?_
            refine J_bipush (pc := 79) dX4_faultIn_79 (by decide) (by decide) ?_
            refine T_icmp_eq (pc := 81) (tgt := 87) dX4_faultIn_81 (by decide) (fun h14 => ?_) (fun h14 => ?_)
            · refine J_iload_n (pc := 87) dX4_faultIn_87 rfl rfl ?_
              refine J_iload (pc := 88) dX4_faultIn_88 rfl ?_
              refine T_vl (fun v15 ev15 => ?_)
              refine T_dia (j := 98) (v := v15) (LT := [some (.ref 3), some (.ref q0), some (.int (iI i2)), none, some (.int (iI v9)), some (.int (iI s13))]) (sT := [.int (iI i2)]) ?_ (fun hj16 => ?_)
              · refine J_iadd (pc := 98) dX4_faultIn_98 ?_
                refine T_vlI (pc := 99) (fun x17 ex17 => ?_)
                refine J_istore_n (pc := 99) (L' := [some (.ref 3), some (.ref q0), some (.int (iI x17)), none, some (.int (iI v9)), some (.int (iI s13))]) dX4_faultIn_99 rfl (by decide) rfl rfl ?_
                refine J_goto (pc := 100) (tgt := 12) dX4_faultIn_100 (by decide) ?_
                refine J_dropf (pc := 12) (L' := [some (.ref 3), some (.ref q0), some (.int (iI x17)), none, none, none]) [true, true, true, false, false, false] rfl ?_
                exact ih x17 m12
              · refine T_if_eq_same (pc := 90) (tgt := 97) dX4_faultIn_90 (by decide) (fun h18 => ?_) (fun h18 => ?_)
                · refine J_iconst (pc := 97) dX4_faultIn_97 ?_
                  exact T_top (by rw [ev15, if_pos h18]) hj16
                · refine J_iconst (pc := 93) dX4_faultIn_93 ?_
                  refine J_goto (pc := 94) (tgt := 98) dX4_faultIn_94 (by decide) ?_
                  exact T_top (by rw [ev15, if_neg h18]) hj16
            · refine J_iload (pc := 84) dX4_faultIn_84 rfl ?_
              exact T_retI (pc := 86) rfl dX4_faultIn_86
          · refine T_if_eq (pc := 57) (tgt := 69) dX4_faultIn_57 (by decide) (fun h19 => ?_) (fun h19 => ?_)
            · refine J_aload_n (pc := 69) dX4_faultIn_69 rfl rfl rfl ?_
              refine J_aload_n (pc := 70) dX4_faultIn_70 rfl rfl rfl ?_
              refine J_iload_n (pc := 71) dX4_faultIn_71 rfl rfl ?_
              refine T_callVI (pc := 72) (As := [.ref q0, .int (iI i2)]) (k := 3) (st := []) ok_yX4_faultInValley lm_X4_42 dX4_faultIn_72 (by decide) rfl rfl (by decide) (Nat.le_of_ble_eq_true rfl) (m_X4_faultInValley m7 q0 i2 hq0) (fun r21 m20 em20 => ?_)
              refine J_dropf (pc := 75) (L' := [some (.ref 3), some (.ref q0), some (.int (iI i2)), none, some (.int (iI v9)), none]) [true, true, true, false, true, false] rfl ?_
              exact hk11 r21 m20
            · refine J_aload_n (pc := 60) dX4_faultIn_60 rfl rfl rfl ?_
              refine J_aload_n (pc := 61) dX4_faultIn_61 rfl rfl rfl ?_
              refine J_iload_n (pc := 62) dX4_faultIn_62 rfl rfl ?_
              refine T_callVI (pc := 63) (As := [.ref q0, .int (iI i2)]) (k := 3) (st := []) ok_yX4_faultInCape lm_X4_38 dX4_faultIn_63 (by decide) rfl rfl (by decide) (Nat.le_of_ble_eq_true rfl) (m_X4_faultInCape m7 q0 i2 hq0) (fun r23 m22 em22 => ?_)
              refine J_goto (pc := 66) (tgt := 75) dX4_faultIn_66 (by decide) ?_
              refine J_dropf (pc := 75) (L' := [some (.ref 3), some (.ref q0), some (.int (iI i2)), none, some (.int (iI v9)), none]) [true, true, true, false, true, false] rfl ?_
              exact hk11 r23 m22
        · refine T_icmp_eq_same (pc := 45) (tgt := 52) dX4_faultIn_45 (by decide) (fun h24 => ?_) (fun h24 => ?_)
          · refine J_iconst (pc := 52) dX4_faultIn_52 ?_
            exact T_top (by rw [ev9, if_pos h24]) hj10
          · refine J_iconst (pc := 48) dX4_faultIn_48 ?_
            refine J_goto (pc := 49) (tgt := 53) dX4_faultIn_49 (by decide) ?_
            exact T_top (by rw [ev9, if_neg h24]) hj10
      · refine J_iinc (pc := 33) (L' := [some (.ref 3), some (.ref q0), some (.int (iI (i2 + 1))), some (.int (iI x5)), none, none]) dX4_faultIn_33 rfl (by decide) rfl rfl ?_
        refine J_goto (pc := 36) (tgt := 12) dX4_faultIn_36 (by decide) ?_
        refine J_dropf (pc := 12) (L' := [some (.ref 3), some (.ref q0), some (.int (iI (i2 + 1))), none, none, none]) [true, true, true, false, false, false] rfl ?_
        exact ih (i2 + 1) mu12
def f_X4_faultIn (m0 : Mem) (q0 : Nat) : Option (Int × Mem) := vm (wr m0 3 2 0) fun m1 => vm (wr m1 3 3 0) fun m2 => f_X4_faultIn_L12 (fun m25 => vl (if w32 (m25 3 2) = 0 then (m25 q0 1) else (-9)) fun v26 => some (v26, m25)) q0 100000 0 m2
set_option maxRecDepth 40000 in
theorem m_X4_faultIn {l : Launch} {G : qG} (m0 : Mem) (q0 : Nat) (hq0 : oText q0) : qM l G 3 yX4_faultIn cX4_faultIn 6 (some .int) [.ref 3, .ref q0] (lay m0) (lf eI (f_X4_faultIn m0 q0)) := by
  refine qM_of (L := [some (.ref 3), some (.ref q0), none, none, none, none]) (by decide +kernel) (Nat.le_of_ble_eq_true rfl) rfl ?_
  unfold f_X4_faultIn
  refine J_aload_n (pc := 0) dX4_faultIn_0 rfl rfl rfl ?_
  refine J_iconst (pc := 1) dX4_faultIn_1 ?_
  refine tp_X4_18 (pc := 2) rfl dX4_faultIn_2 ?_
  refine T_vm (fun m1 em1 => ?_)
  refine J_aload_n (pc := 5) dX4_faultIn_5 rfl rfl rfl ?_
  refine J_iconst (pc := 6) dX4_faultIn_6 ?_
  refine tp_X4_22 (pc := 7) rfl dX4_faultIn_7 ?_
  refine T_vm (fun m2 em2 => ?_)
  refine J_iconst (pc := 10) dX4_faultIn_10 ?_
  refine J_istore_n (pc := 11) (L' := [some (.ref 3), some (.ref q0), some (.int (iI 0)), none, none, none]) dX4_faultIn_11 rfl (by decide) rfl rfl ?_
  refine j_X4_faultIn_L12 hq0 ?_ 100000 0 m2
  · intro m25
    refine J_aload_n (pc := 103) dX4_faultIn_103 rfl rfl rfl ?_
    refine tg_X4_18 (pc := 104) rfl dX4_faultIn_104 ?_
    refine T_vl (fun v26 ev26 => ?_)
    refine T_dia (j := 119) (v := v26) (LT := [some (.ref 3), some (.ref q0), none, none, none, none]) (sT := []) ?_ (fun hj27 => ?_)
    · exact T_retI (pc := 119) rfl dX4_faultIn_119
    · refine T_if_ne_same (pc := 107) (tgt := 117) dX4_faultIn_107 (by decide) (fun h28 => ?_) (fun h28 => ?_)
      · refine J_bipush (pc := 117) dX4_faultIn_117 (by decide) (by decide) ?_
        exact T_top (by rw [ev26, if_neg h28]) hj27
      · refine J_aload_n (pc := 110) dX4_faultIn_110 rfl rfl rfl ?_
        refine tg_X4_25 (pc := 111) hq0 rfl dX4_faultIn_111 ?_
        refine J_goto (pc := 114) (tgt := 119) dX4_faultIn_114 (by decide) ?_
        exact T_top (by rw [ev26, if_pos h28]) hj27
