section CT
variable {l : Launch} {G : qG} {y : MethodName} {cc : ByteArray} {mL d : Nat} {rt : Option FieldType} {pc : Nat} {L : List (Option Value)} {st : List Value} {A : qH} {F : Option (Option Value × qH)}
theorem J_ge_t {a b : Int} {off : Int} {tgt : Nat} (hd : decode cc pc = .ok (.if_icmp .ge off, 3)) (ht : (pc : Int) + off = (tgt : Int)) (h : ¬ w32 a < w32 b) (kk : qJ l G y cc mL rt d tgt L st A F) : qJ l G y cc mL rt d pc L (.int (iI b) :: .int (iI a) :: st) A F := by
  have k := J_icmp_ge (F1 := F) (F2 := F) hd ht (fun _ => kk) (fun z => absurd z h)
  rw [ite_self] at k
  exact k
theorem J_ge_f {a b : Int} {off : Int} {tgt : Nat} (hd : decode cc pc = .ok (.if_icmp .ge off, 3)) (ht : (pc : Int) + off = (tgt : Int)) (h : w32 a < w32 b) (kk : qJ l G y cc mL rt d (pc + 3) L st A F) : qJ l G y cc mL rt d pc L (.int (iI b) :: .int (iI a) :: st) A F := by
  have k := J_icmp_ge (F1 := F) (F2 := F) hd ht (fun z => absurd h z) (fun _ => kk)
  rw [ite_self] at k
  exact k
theorem J_aastore' {j t n v ci q9 : Nat} {q : vw_C} {fs : List Value} {f : Nat → Option Nat} {a : Int} (hd : decode cc pc = .ok (.aastore, 1)) (hA : A[j]? = some (.inl (t, n, .inr (.inr (.inr (.inr f)))))) (hq : qcl[ci]? = some q) (ht : ∀ G : qG, (qty G)[t]? = some (G.2.2.2.2 t, .object q.1)) (hv : A[v]? = some (.inr (ci, fs))) (ha : w32 a = (q9 : Int)) (hn : q9 < n)
    (kk : qJ l G y cc mL rt d (pc + 1) L st (A.set j (.inl (t, n, .inr (.inr (.inr (.inr (va_up f q9 (some v)))))))) F) : qJ l G y cc mL rt d pc L (.ref v :: .int (iI a) :: .ref j :: st) A F := by
  have e : (w32 a).toNat = q9 := by omega
  refine J_aastore hd hA hq ht hv ⟨by omega, by omega⟩ ?_
  rw [e]; exact kk
theorem J_aaload' {j t n i q9 : Nat} {C : String} {f : Nat → Option Nat} {a : Int} (hd : decode cc pc = .ok (.aaload, 1)) (hA : A[j]? = some (.inl (t, n, .inr (.inr (.inr (.inr f)))))) (ht : (qty G)[t]? = some (G.2.2.2.2 t, .object C)) (ha : w32 a = (q9 : Int)) (hn : q9 < n) (hz : f q9 = some i)
    (kk : qJ l G y cc mL rt d (pc + 1) L (.ref i :: st) A F) : qJ l G y cc mL rt d pc L (.int (iI a) :: .ref j :: st) A F := by
  have e : (w32 a).toNat = q9 := by omega
  exact J_aaload hd hA ht ⟨by omega, by omega⟩ (by rw [e]; exact hz) kk
theorem J_iastore' {j n q9 : Nat} {f : Nat → Int32} {a z : Int} (hd : decode cc pc = .ok (.iastore, 1)) (hA : A[j]? = some (.inl (0, n, .inl f))) (ha : w32 a = (q9 : Int)) (hn : q9 < n)
    (kk : qJ l G y cc mL rt d (pc + 1) L st (A.set j (.inl (0, n, .inl (upd f q9 (iI z))))) F) : qJ l G y cc mL rt d pc L (.int (iI z) :: .int (iI a) :: .ref j :: st) A F := by
  have e : (w32 a).toNat = q9 := by omega
  refine J_iastore hd hA ⟨by omega, by omega⟩ ?_
  rw [e]; exact kk
end CT
def qc1 : qE := .inr (9, [.null, .null, .null, .null, .null, .null, .null, .null, .null, .null, .null, .null, .int (iI 0), .int (iI 0), .long (iL 0), .long (iL 0)])
def qh1 : qH := [qc1]
def qc2 : qE := .inl (2, 6, .inr (.inr (.inr (.inr (fun _ => none)))))
def qh2 : qH := [qc1, qc2]
def qc3 : qE := .inr (9, [.ref 1, .null, .null, .null, .null, .null, .null, .null, .null, .null, .null, .null, .int (iI 0), .int (iI 0), .long (iL 0), .long (iL 0)])
def qh3 : qH := [qc3, qc2]
def qc4 : qE := .inl (3, 4, .inr (.inr (.inr (.inr (fun _ => none)))))
def qh4 : qH := [qc3, qc2, qc4]
def qc5 : qE := .inr (9, [.ref 1, .ref 2, .null, .null, .null, .null, .null, .null, .null, .null, .null, .null, .int (iI 0), .int (iI 0), .long (iL 0), .long (iL 0)])
def qh5 : qH := [qc5, qc2, qc4]
def qc6 : qE := .inr (4, [.null, .null, .int (iI 0), .int (iI 0)])
def qh6 : qH := [qc5, qc2, qc4, qc6]
def qc7 : qE := .inl (0, 15, .inl (fun _ => 0))
def qh7 : qH := [qc5, qc2, qc4, qc6, qc7]
def qc8 : qE := .inr (4, [.ref 4, .null, .int (iI 0), .int (iI 0)])
def qh8 : qH := [qc5, qc2, qc4, qc8, qc7]
def qc9 : qE := .inl (0, 16, .inl (fun _ => 0))
def qh9 : qH := [qc5, qc2, qc4, qc8, qc7, qc9]
def qc10 : qE := .inr (4, [.ref 4, .ref 5, .int (iI 0), .int (iI 0)])
def qh10 : qH := [qc5, qc2, qc4, qc10, qc7, qc9]
set_option maxRecDepth 40000 in
theorem ct_X4_init_3 {l : Launch} {G : qG} : qM l G 1 yX4_init cX4_init 1 none [.ref 3] qh6 (some (none, qh10)) := by
  refine qM_of (L := [some (.ref 3)]) (by decide +kernel) (Nat.le_of_ble_eq_true rfl) rfl ?_
  refine J_aload_n (pc := 0) dX4_init_0 rfl rfl rfl ?_
  refine J_objInit (pc := 1) (by decide) lm_X4_3 (Nat.le_of_ble_eq_true rfl) dX4_init_1 ?_
  refine J_aload_n (pc := 4) dX4_init_4 rfl rfl rfl ?_
  refine J_bipush (pc := 5) dX4_init_5 (by decide) (by decide) ?_
  refine J_newarray (pc := 7) (t := 0) (N := 15) (ty := .int) (by decide) rfl ac_int (fun _ => rfl) rfl (fun _ _ h => h) dX4_init_7 (by decide +kernel) (by decide) ?_
  show qJ _ _ _ _ _ _ _ _ _ _ qh7 _
  refine J_putfinal (pc := 9) (ci := 4) (k := 0) rfl inX4 (by decide) lf_X4_9 tyX4 tyX4_ok nmX4 rfl rfl rfl dX4_init_9 rfl (by decide) rfl rfl ?_
  show qJ _ _ _ _ _ _ _ _ _ _ qh8 _
  refine J_aload_n (pc := 12) dX4_init_12 rfl rfl rfl ?_
  refine J_bipush (pc := 13) dX4_init_13 (by decide) (by decide) ?_
  refine J_newarray (pc := 15) (t := 0) (N := 16) (ty := .int) (by decide) rfl ac_int (fun _ => rfl) rfl (fun _ _ h => h) dX4_init_15 (by decide +kernel) (by decide) ?_
  show qJ _ _ _ _ _ _ _ _ _ _ qh9 _
  refine J_putfinal (pc := 17) (ci := 4) (k := 1) rfl inX4 (by decide) lf_X4_15 tyX4 tyX4_ok nmX4 rfl rfl rfl dX4_init_17 rfl (by decide) rfl rfl ?_
  show qJ _ _ _ _ _ _ _ _ _ _ qh10 _
  refine J_aload_n (pc := 20) dX4_init_20 rfl rfl rfl ?_
  refine J_iconst (pc := 21) dX4_init_21 ?_
  refine J_putfield (pc := 22) (ci := 4) (k := 2) rfl inX4 (by decide) lf_X4_18 tyX4 tyX4_ok nmX4 rfl dX4_init_22 rfl (by decide) rfl rfl ?_
  show qJ _ _ _ _ _ _ _ _ _ _ qh10 _
  refine J_aload_n (pc := 25) dX4_init_25 rfl rfl rfl ?_
  refine J_iconst (pc := 26) dX4_init_26 ?_
  refine J_putfield (pc := 27) (ci := 4) (k := 3) rfl inX4 (by decide) lf_X4_22 tyX4 tyX4_ok nmX4 rfl dX4_init_27 rfl (by decide) rfl rfl ?_
  show qJ _ _ _ _ _ _ _ _ _ _ qh10 _
  exact J_ret (pc := 30) (r := none) dX4_init_30 (Or.inr (Or.inr ⟨rfl, rfl, rfl⟩)) rfl
def qc11 : qE := .inr (9, [.ref 1, .ref 2, .ref 3, .null, .null, .null, .null, .null, .null, .null, .null, .null, .int (iI 0), .int (iI 0), .long (iL 0), .long (iL 0)])
def qh11 : qH := [qc11, qc2, qc4, qc10, qc7, qc9]
def qc12 : qE := .inr (8, [.null, .null, .null, .null, .null, .null, .int (iI 0), .int (iI 0)])
def qh12 : qH := [qc11, qc2, qc4, qc10, qc7, qc9, qc12]
def qc13 : qE := .inl (0, 5, .inl (fun _ => 0))
def qh13 : qH := [qc11, qc2, qc4, qc10, qc7, qc9, qc12, qc13]
def qc14 : qE := .inr (8, [.ref 7, .null, .null, .null, .null, .null, .int (iI 0), .int (iI 0)])
def qh14 : qH := [qc11, qc2, qc4, qc10, qc7, qc9, qc14, qc13]
def qc15 : qE := .inl (0, 6, .inl (fun _ => 0))
def qh15 : qH := [qc11, qc2, qc4, qc10, qc7, qc9, qc14, qc13, qc15]
def qc16 : qE := .inr (8, [.ref 7, .ref 8, .null, .null, .null, .null, .int (iI 0), .int (iI 0)])
def qh16 : qH := [qc11, qc2, qc4, qc10, qc7, qc9, qc16, qc13, qc15]
def qc17 : qE := .inl (0, 4, .inl (fun _ => 0))
def qh17 : qH := [qc11, qc2, qc4, qc10, qc7, qc9, qc16, qc13, qc15, qc17]
def qc18 : qE := .inr (8, [.ref 7, .ref 8, .ref 9, .null, .null, .null, .int (iI 0), .int (iI 0)])
def qh18 : qH := [qc11, qc2, qc4, qc10, qc7, qc9, qc18, qc13, qc15, qc17]
def qh19 : qH := [qc11, qc2, qc4, qc10, qc7, qc9, qc18, qc13, qc15, qc17, qc17]
def qc19 : qE := .inr (8, [.ref 7, .ref 8, .ref 9, .ref 10, .null, .null, .int (iI 0), .int (iI 0)])
def qh20 : qH := [qc11, qc2, qc4, qc10, qc7, qc9, qc19, qc13, qc15, qc17, qc17]
def qh21 : qH := [qc11, qc2, qc4, qc10, qc7, qc9, qc19, qc13, qc15, qc17, qc17, qc17]
def qc20 : qE := .inr (8, [.ref 7, .ref 8, .ref 9, .ref 10, .ref 11, .null, .int (iI 0), .int (iI 0)])
def qh22 : qH := [qc11, qc2, qc4, qc10, qc7, qc9, qc20, qc13, qc15, qc17, qc17, qc17]
def qh23 : qH := [qc11, qc2, qc4, qc10, qc7, qc9, qc20, qc13, qc15, qc17, qc17, qc17, qc17]
def qc21 : qE := .inr (8, [.ref 7, .ref 8, .ref 9, .ref 10, .ref 11, .ref 12, .int (iI 0), .int (iI 0)])
def qh24 : qH := [qc11, qc2, qc4, qc10, qc7, qc9, qc21, qc13, qc15, qc17, qc17, qc17, qc17]
set_option maxRecDepth 40000 in
theorem ct_X8_init_6 {l : Launch} {G : qG} : qM l G 1 yX8_init cX8_init 1 none [.ref 6] qh12 (some (none, qh24)) := by
  refine qM_of (L := [some (.ref 6)]) (by decide +kernel) (Nat.le_of_ble_eq_true rfl) rfl ?_
  refine J_aload_n (pc := 0) dX8_init_0 rfl rfl rfl ?_
  refine J_objInit (pc := 1) (by decide) lm_X8_3 (Nat.le_of_ble_eq_true rfl) dX8_init_1 ?_
  refine J_aload_n (pc := 4) dX8_init_4 rfl rfl rfl ?_
  refine J_iconst (pc := 5) dX8_init_5 ?_
  refine J_newarray (pc := 6) (t := 0) (N := 5) (ty := .int) (by decide) rfl ac_int (fun _ => rfl) rfl (fun _ _ h => h) dX8_init_6 (by decide +kernel) (by decide) ?_
  show qJ _ _ _ _ _ _ _ _ _ _ qh13 _
  refine J_putfinal (pc := 8) (ci := 8) (k := 0) rfl inX8 (by decide) lf_X8_9 tyX8 tyX8_ok nmX8 rfl rfl rfl dX8_init_8 rfl (by decide) rfl rfl ?_
  show qJ _ _ _ _ _ _ _ _ _ _ qh14 _
  refine J_aload_n (pc := 11) dX8_init_11 rfl rfl rfl ?_
  refine J_bipush (pc := 12) dX8_init_12 (by decide) (by decide) ?_
  refine J_newarray (pc := 14) (t := 0) (N := 6) (ty := .int) (by decide) rfl ac_int (fun _ => rfl) rfl (fun _ _ h => h) dX8_init_14 (by decide +kernel) (by decide) ?_
  show qJ _ _ _ _ _ _ _ _ _ _ qh15 _
  refine J_putfinal (pc := 16) (ci := 8) (k := 1) rfl inX8 (by decide) lf_X8_15 tyX8 tyX8_ok nmX8 rfl rfl rfl dX8_init_16 rfl (by decide) rfl rfl ?_
  show qJ _ _ _ _ _ _ _ _ _ _ qh16 _
  refine J_aload_n (pc := 19) dX8_init_19 rfl rfl rfl ?_
  refine J_iconst (pc := 20) dX8_init_20 ?_
  refine J_newarray (pc := 21) (t := 0) (N := 4) (ty := .int) (by decide) rfl ac_int (fun _ => rfl) rfl (fun _ _ h => h) dX8_init_21 (by decide +kernel) (by decide) ?_
  show qJ _ _ _ _ _ _ _ _ _ _ qh17 _
  refine J_putfinal (pc := 23) (ci := 8) (k := 2) rfl inX8 (by decide) lf_X8_18 tyX8 tyX8_ok nmX8 rfl rfl rfl dX8_init_23 rfl (by decide) rfl rfl ?_
  show qJ _ _ _ _ _ _ _ _ _ _ qh18 _
  refine J_aload_n (pc := 26) dX8_init_26 rfl rfl rfl ?_
  refine J_iconst (pc := 27) dX8_init_27 ?_
  refine J_newarray (pc := 28) (t := 0) (N := 4) (ty := .int) (by decide) rfl ac_int (fun _ => rfl) rfl (fun _ _ h => h) dX8_init_28 (by decide +kernel) (by decide) ?_
  show qJ _ _ _ _ _ _ _ _ _ _ qh19 _
  refine J_putfinal (pc := 30) (ci := 8) (k := 3) rfl inX8 (by decide) lf_X8_21 tyX8 tyX8_ok nmX8 rfl rfl rfl dX8_init_30 rfl (by decide) rfl rfl ?_
  show qJ _ _ _ _ _ _ _ _ _ _ qh20 _
  refine J_aload_n (pc := 33) dX8_init_33 rfl rfl rfl ?_
  refine J_iconst (pc := 34) dX8_init_34 ?_
  refine J_newarray (pc := 35) (t := 0) (N := 4) (ty := .int) (by decide) rfl ac_int (fun _ => rfl) rfl (fun _ _ h => h) dX8_init_35 (by decide +kernel) (by decide) ?_
  show qJ _ _ _ _ _ _ _ _ _ _ qh21 _
  refine J_putfinal (pc := 37) (ci := 8) (k := 4) rfl inX8 (by decide) lf_X8_24 tyX8 tyX8_ok nmX8 rfl rfl rfl dX8_init_37 rfl (by decide) rfl rfl ?_
  show qJ _ _ _ _ _ _ _ _ _ _ qh22 _
  refine J_aload_n (pc := 40) dX8_init_40 rfl rfl rfl ?_
  refine J_iconst (pc := 41) dX8_init_41 ?_
  refine J_newarray (pc := 42) (t := 0) (N := 4) (ty := .int) (by decide) rfl ac_int (fun _ => rfl) rfl (fun _ _ h => h) dX8_init_42 (by decide +kernel) (by decide) ?_
  show qJ _ _ _ _ _ _ _ _ _ _ qh23 _
  refine J_putfinal (pc := 44) (ci := 8) (k := 5) rfl inX8 (by decide) lf_X8_27 tyX8 tyX8_ok nmX8 rfl rfl rfl dX8_init_44 rfl (by decide) rfl rfl ?_
  show qJ _ _ _ _ _ _ _ _ _ _ qh24 _
  refine J_aload_n (pc := 47) dX8_init_47 rfl rfl rfl ?_
  refine J_iconst (pc := 48) dX8_init_48 ?_
  refine J_putfield (pc := 49) (ci := 8) (k := 6) rfl inX8 (by decide) lf_X8_30 tyX8 tyX8_ok nmX8 rfl dX8_init_49 rfl (by decide) rfl rfl ?_
  show qJ _ _ _ _ _ _ _ _ _ _ qh24 _
  refine J_aload_n (pc := 52) dX8_init_52 rfl rfl rfl ?_
  refine J_iconst (pc := 53) dX8_init_53 ?_
  refine J_putfield (pc := 54) (ci := 8) (k := 7) rfl inX8 (by decide) lf_X8_34 tyX8 tyX8_ok nmX8 rfl dX8_init_54 rfl (by decide) rfl rfl ?_
  show qJ _ _ _ _ _ _ _ _ _ _ qh24 _
  exact J_ret (pc := 57) (r := none) dX8_init_57 (Or.inr (Or.inr ⟨rfl, rfl, rfl⟩)) rfl
def qc22 : qE := .inr (9, [.ref 1, .ref 2, .ref 3, .ref 6, .null, .null, .null, .null, .null, .null, .null, .null, .int (iI 0), .int (iI 0), .long (iL 0), .long (iL 0)])
def qh25 : qH := [qc22, qc2, qc4, qc10, qc7, qc9, qc21, qc13, qc15, qc17, qc17, qc17, qc17]
def qc23 : qE := .inr (1, [.null, .int (iI 0), .int (iI 0), .int (iI 0), .int (iI 0)])
def qh26 : qH := [qc22, qc2, qc4, qc10, qc7, qc9, qc21, qc13, qc15, qc17, qc17, qc17, qc17, qc23]
def qh27 : qH := [qc22, qc2, qc4, qc10, qc7, qc9, qc21, qc13, qc15, qc17, qc17, qc17, qc17, qc23, qc9]
def qc24 : qE := .inr (1, [.ref 14, .int (iI 0), .int (iI 0), .int (iI 0), .int (iI 0)])
def qh28 : qH := [qc22, qc2, qc4, qc10, qc7, qc9, qc21, qc13, qc15, qc17, qc17, qc17, qc17, qc24, qc9]
set_option maxRecDepth 40000 in
theorem ct_X1_init_13 {l : Launch} {G : qG} : qM l G 1 yX1_init cX1_init 1 none [.ref 13] qh26 (some (none, qh28)) := by
  refine qM_of (L := [some (.ref 13)]) (by decide +kernel) (Nat.le_of_ble_eq_true rfl) rfl ?_
  refine J_aload_n (pc := 0) dX1_init_0 rfl rfl rfl ?_
  refine J_objInit (pc := 1) (by decide) lm_X1_3 (Nat.le_of_ble_eq_true rfl) dX1_init_1 ?_
  refine J_aload_n (pc := 4) dX1_init_4 rfl rfl rfl ?_
  refine J_bipush (pc := 5) dX1_init_5 (by decide) (by decide) ?_
  refine J_newarray (pc := 7) (t := 0) (N := 16) (ty := .int) (by decide) rfl ac_int (fun _ => rfl) rfl (fun _ _ h => h) dX1_init_7 (by decide +kernel) (by decide) ?_
  show qJ _ _ _ _ _ _ _ _ _ _ qh27 _
  refine J_putfinal (pc := 9) (ci := 1) (k := 0) rfl inX1 (by decide) lf_X1_9 tyX1 tyX1_ok nmX1 rfl rfl rfl dX1_init_9 rfl (by decide) rfl rfl ?_
  show qJ _ _ _ _ _ _ _ _ _ _ qh28 _
  refine J_aload_n (pc := 12) dX1_init_12 rfl rfl rfl ?_
  refine J_iconst (pc := 13) dX1_init_13 ?_
  refine J_putfield (pc := 14) (ci := 1) (k := 1) rfl inX1 (by decide) lf_X1_15 tyX1 tyX1_ok nmX1 rfl dX1_init_14 rfl (by decide) rfl rfl ?_
  show qJ _ _ _ _ _ _ _ _ _ _ qh28 _
  refine J_aload_n (pc := 17) dX1_init_17 rfl rfl rfl ?_
  refine J_iconst (pc := 18) dX1_init_18 ?_
  refine J_putfield (pc := 19) (ci := 1) (k := 2) rfl inX1 (by decide) lf_X1_19 tyX1 tyX1_ok nmX1 rfl dX1_init_19 rfl (by decide) rfl rfl ?_
  show qJ _ _ _ _ _ _ _ _ _ _ qh28 _
  refine J_aload_n (pc := 22) dX1_init_22 rfl rfl rfl ?_
  refine J_iconst (pc := 23) dX1_init_23 ?_
  refine J_putfield (pc := 24) (ci := 1) (k := 3) rfl inX1 (by decide) lf_X1_22 tyX1 tyX1_ok nmX1 rfl dX1_init_24 rfl (by decide) rfl rfl ?_
  show qJ _ _ _ _ _ _ _ _ _ _ qh28 _
  refine J_aload_n (pc := 27) dX1_init_27 rfl rfl rfl ?_
  refine J_iconst (pc := 28) dX1_init_28 ?_
  refine J_putfield (pc := 29) (ci := 1) (k := 4) rfl inX1 (by decide) lf_X1_25 tyX1 tyX1_ok nmX1 rfl dX1_init_29 rfl (by decide) rfl rfl ?_
  show qJ _ _ _ _ _ _ _ _ _ _ qh28 _
  exact J_ret (pc := 32) (r := none) dX1_init_32 (Or.inr (Or.inr ⟨rfl, rfl, rfl⟩)) rfl
def qc25 : qE := .inr (9, [.ref 1, .ref 2, .ref 3, .ref 6, .ref 13, .null, .null, .null, .null, .null, .null, .null, .int (iI 0), .int (iI 0), .long (iL 0), .long (iL 0)])
def qh29 : qH := [qc25, qc2, qc4, qc10, qc7, qc9, qc21, qc13, qc15, qc17, qc17, qc17, qc17, qc24, qc9]
def qc26 : qE := .inr (2, [.null, .null, .int (iI 0)])
def qh30 : qH := [qc25, qc2, qc4, qc10, qc7, qc9, qc21, qc13, qc15, qc17, qc17, qc17, qc17, qc24, qc9, qc26]
def qc27 : qE := .inl (0, 976, .inl (fun _ => 0))
def qh31 : qH := [qc25, qc2, qc4, qc10, qc7, qc9, qc21, qc13, qc15, qc17, qc17, qc17, qc17, qc24, qc9, qc26, qc27]
def qc28 : qE := .inr (2, [.ref 16, .null, .int (iI 0)])
def qh32 : qH := [qc25, qc2, qc4, qc10, qc7, qc9, qc21, qc13, qc15, qc17, qc17, qc17, qc17, qc24, qc9, qc28, qc27]
def qh33 : qH := [qc25, qc2, qc4, qc10, qc7, qc9, qc21, qc13, qc15, qc17, qc17, qc17, qc17, qc24, qc9, qc28, qc27, qc17]
def qc29 : qE := .inr (2, [.ref 16, .ref 17, .int (iI 0)])
def qh34 : qH := [qc25, qc2, qc4, qc10, qc7, qc9, qc21, qc13, qc15, qc17, qc17, qc17, qc17, qc24, qc9, qc29, qc27, qc17]
set_option maxRecDepth 40000 in
theorem ct_X2_init_15 {l : Launch} {G : qG} : qM l G 1 yX2_init cX2_init 1 none [.ref 15] qh30 (some (none, qh34)) := by
  refine qM_of (L := [some (.ref 15)]) (by decide +kernel) (Nat.le_of_ble_eq_true rfl) rfl ?_
  refine J_aload_n (pc := 0) dX2_init_0 rfl rfl rfl ?_
  refine J_objInit (pc := 1) (by decide) lm_X2_3 (Nat.le_of_ble_eq_true rfl) dX2_init_1 ?_
  refine J_aload_n (pc := 4) dX2_init_4 rfl rfl rfl ?_
  refine J_sipush (pc := 5) dX2_init_5 (by decide) (by decide) ?_
  refine J_newarray (pc := 8) (t := 0) (N := 976) (ty := .int) (by decide) rfl ac_int (fun _ => rfl) rfl (fun _ _ h => h) dX2_init_8 (by decide +kernel) (by decide) ?_
  show qJ _ _ _ _ _ _ _ _ _ _ qh31 _
  refine J_putfinal (pc := 10) (ci := 2) (k := 0) rfl inX2 (by decide) lf_X2_9 tyX2 tyX2_ok nmX2 rfl rfl rfl dX2_init_10 rfl (by decide) rfl rfl ?_
  show qJ _ _ _ _ _ _ _ _ _ _ qh32 _
  refine J_aload_n (pc := 13) dX2_init_13 rfl rfl rfl ?_
  refine J_iconst (pc := 14) dX2_init_14 ?_
  refine J_newarray (pc := 15) (t := 0) (N := 4) (ty := .int) (by decide) rfl ac_int (fun _ => rfl) rfl (fun _ _ h => h) dX2_init_15 (by decide +kernel) (by decide) ?_
  show qJ _ _ _ _ _ _ _ _ _ _ qh33 _
  refine J_putfinal (pc := 17) (ci := 2) (k := 1) rfl inX2 (by decide) lf_X2_15 tyX2 tyX2_ok nmX2 rfl rfl rfl dX2_init_17 rfl (by decide) rfl rfl ?_
  show qJ _ _ _ _ _ _ _ _ _ _ qh34 _
  refine J_aload_n (pc := 20) dX2_init_20 rfl rfl rfl ?_
  refine J_iconst (pc := 21) dX2_init_21 ?_
  refine J_putfield (pc := 22) (ci := 2) (k := 2) rfl inX2 (by decide) lf_X2_18 tyX2 tyX2_ok nmX2 rfl dX2_init_22 rfl (by decide) rfl rfl ?_
  show qJ _ _ _ _ _ _ _ _ _ _ qh34 _
  exact J_ret (pc := 25) (r := none) dX2_init_25 (Or.inr (Or.inr ⟨rfl, rfl, rfl⟩)) rfl
def qc30 : qE := .inr (9, [.ref 1, .ref 2, .ref 3, .ref 6, .ref 13, .ref 15, .null, .null, .null, .null, .null, .null, .int (iI 0), .int (iI 0), .long (iL 0), .long (iL 0)])
def qh35 : qH := [qc30, qc2, qc4, qc10, qc7, qc9, qc21, qc13, qc15, qc17, qc17, qc17, qc17, qc24, qc9, qc29, qc27, qc17]
def qc31 : qE := .inl (4, 3, .inr (.inr (.inr (.inr (fun _ => none)))))
def qh36 : qH := [qc30, qc2, qc4, qc10, qc7, qc9, qc21, qc13, qc15, qc17, qc17, qc17, qc17, qc24, qc9, qc29, qc27, qc17, qc31]
def qc32 : qE := .inr (9, [.ref 1, .ref 2, .ref 3, .ref 6, .ref 13, .ref 15, .ref 18, .null, .null, .null, .null, .null, .int (iI 0), .int (iI 0), .long (iL 0), .long (iL 0)])
def qh37 : qH := [qc32, qc2, qc4, qc10, qc7, qc9, qc21, qc13, qc15, qc17, qc17, qc17, qc17, qc24, qc9, qc29, qc27, qc17, qc31]
def qc33 : qE := .inr (3, [.null, .int (iI 0)])
def qh38 : qH := [qc32, qc2, qc4, qc10, qc7, qc9, qc21, qc13, qc15, qc17, qc17, qc17, qc17, qc24, qc9, qc29, qc27, qc17, qc31, qc33]
def qh39 : qH := [qc32, qc2, qc4, qc10, qc7, qc9, qc21, qc13, qc15, qc17, qc17, qc17, qc17, qc24, qc9, qc29, qc27, qc17, qc31, qc33, qc23]
def qh40 : qH := [qc32, qc2, qc4, qc10, qc7, qc9, qc21, qc13, qc15, qc17, qc17, qc17, qc17, qc24, qc9, qc29, qc27, qc17, qc31, qc33, qc23, qc9]
def qc34 : qE := .inr (1, [.ref 21, .int (iI 0), .int (iI 0), .int (iI 0), .int (iI 0)])
def qh41 : qH := [qc32, qc2, qc4, qc10, qc7, qc9, qc21, qc13, qc15, qc17, qc17, qc17, qc17, qc24, qc9, qc29, qc27, qc17, qc31, qc33, qc34, qc9]
set_option maxRecDepth 40000 in
theorem ct_X1_init_20 {l : Launch} {G : qG} : qM l G 1 yX1_init cX1_init 1 none [.ref 20] qh39 (some (none, qh41)) := by
  refine qM_of (L := [some (.ref 20)]) (by decide +kernel) (Nat.le_of_ble_eq_true rfl) rfl ?_
  refine J_aload_n (pc := 0) dX1_init_0 rfl rfl rfl ?_
  refine J_objInit (pc := 1) (by decide) lm_X1_3 (Nat.le_of_ble_eq_true rfl) dX1_init_1 ?_
  refine J_aload_n (pc := 4) dX1_init_4 rfl rfl rfl ?_
  refine J_bipush (pc := 5) dX1_init_5 (by decide) (by decide) ?_
  refine J_newarray (pc := 7) (t := 0) (N := 16) (ty := .int) (by decide) rfl ac_int (fun _ => rfl) rfl (fun _ _ h => h) dX1_init_7 (by decide +kernel) (by decide) ?_
  show qJ _ _ _ _ _ _ _ _ _ _ qh40 _
  refine J_putfinal (pc := 9) (ci := 1) (k := 0) rfl inX1 (by decide) lf_X1_9 tyX1 tyX1_ok nmX1 rfl rfl rfl dX1_init_9 rfl (by decide) rfl rfl ?_
  show qJ _ _ _ _ _ _ _ _ _ _ qh41 _
  refine J_aload_n (pc := 12) dX1_init_12 rfl rfl rfl ?_
  refine J_iconst (pc := 13) dX1_init_13 ?_
  refine J_putfield (pc := 14) (ci := 1) (k := 1) rfl inX1 (by decide) lf_X1_15 tyX1 tyX1_ok nmX1 rfl dX1_init_14 rfl (by decide) rfl rfl ?_
  show qJ _ _ _ _ _ _ _ _ _ _ qh41 _
  refine J_aload_n (pc := 17) dX1_init_17 rfl rfl rfl ?_
  refine J_iconst (pc := 18) dX1_init_18 ?_
  refine J_putfield (pc := 19) (ci := 1) (k := 2) rfl inX1 (by decide) lf_X1_19 tyX1 tyX1_ok nmX1 rfl dX1_init_19 rfl (by decide) rfl rfl ?_
  show qJ _ _ _ _ _ _ _ _ _ _ qh41 _
  refine J_aload_n (pc := 22) dX1_init_22 rfl rfl rfl ?_
  refine J_iconst (pc := 23) dX1_init_23 ?_
  refine J_putfield (pc := 24) (ci := 1) (k := 3) rfl inX1 (by decide) lf_X1_22 tyX1 tyX1_ok nmX1 rfl dX1_init_24 rfl (by decide) rfl rfl ?_
  show qJ _ _ _ _ _ _ _ _ _ _ qh41 _
  refine J_aload_n (pc := 27) dX1_init_27 rfl rfl rfl ?_
  refine J_iconst (pc := 28) dX1_init_28 ?_
  refine J_putfield (pc := 29) (ci := 1) (k := 4) rfl inX1 (by decide) lf_X1_25 tyX1 tyX1_ok nmX1 rfl dX1_init_29 rfl (by decide) rfl rfl ?_
  show qJ _ _ _ _ _ _ _ _ _ _ qh41 _
  exact J_ret (pc := 32) (r := none) dX1_init_32 (Or.inr (Or.inr ⟨rfl, rfl, rfl⟩)) rfl
def qc35 : qE := .inr (3, [.ref 20, .int (iI 0)])
def qh42 : qH := [qc32, qc2, qc4, qc10, qc7, qc9, qc21, qc13, qc15, qc17, qc17, qc17, qc17, qc24, qc9, qc29, qc27, qc17, qc31, qc35, qc34, qc9]
set_option maxRecDepth 40000 in
theorem ct_X3_init_19 {l : Launch} {G : qG} : qM l G 2 yX3_init cX3_init 1 none [.ref 19] qh38 (some (none, qh42)) := by
  refine qM_of (L := [some (.ref 19)]) (by decide +kernel) (Nat.le_of_ble_eq_true rfl) rfl ?_
  refine J_aload_n (pc := 0) dX3_init_0 rfl rfl rfl ?_
  refine J_objInit (pc := 1) (by decide) lm_X3_3 (Nat.le_of_ble_eq_true rfl) dX3_init_1 ?_
  refine J_aload_n (pc := 4) dX3_init_4 rfl rfl rfl ?_
  refine J_new (pc := 5) (ci := 1) (fs := [.null, .int (iI 0), .int (iI 0), .int (iI 0), .int (iI 0)]) rfl inX1 tyX1 tyX1_ok ik_X1 ini_X1 (by decide +kernel) rfl (fun _ => rfl) (by decide) lc_X3_9 dX3_init_5 ?_
  show qJ _ _ _ _ _ _ _ _ _ _ qh39 _
  refine J_dup (pc := 8) dX3_init_8 rfl ?_
  refine J_callI (pc := 9) (d' := 1) (st := [.ref 20, .ref 19]) im_yX1_init ini_X1 cd_yX1_init (by decide) rfl (by decide +kernel) (Or.inr (by simp [qnw, yX3_init, RX3])) dX3_init_9 (by decide) (Nat.le_of_ble_eq_true rfl) ct_X1_init_20 (fun h => by cases h) (fun r A1 h => ?_)
  cases h
  show qJ _ _ _ _ _ _ _ _ _ [.ref 20, .ref 19] qh41 _
  refine J_putfinal (pc := 12) (ci := 3) (k := 0) rfl inX3 (by decide) lf_X3_12 tyX3 tyX3_ok nmX3 rfl rfl rfl dX3_init_12 rfl (by decide) rfl rfl ?_
  show qJ _ _ _ _ _ _ _ _ _ _ qh42 _
  refine J_aload_n (pc := 15) dX3_init_15 rfl rfl rfl ?_
  refine J_iconst (pc := 16) dX3_init_16 ?_
  refine J_putfield (pc := 17) (ci := 3) (k := 1) rfl inX3 (by decide) lf_X3_18 tyX3 tyX3_ok nmX3 rfl dX3_init_17 rfl (by decide) rfl rfl ?_
  show qJ _ _ _ _ _ _ _ _ _ _ qh42 _
  exact J_ret (pc := 20) (r := none) dX3_init_20 (Or.inr (Or.inr ⟨rfl, rfl, rfl⟩)) rfl
def qc36 : qE := .inr (9, [.ref 1, .ref 2, .ref 3, .ref 6, .ref 13, .ref 15, .ref 18, .ref 19, .null, .null, .null, .null, .int (iI 0), .int (iI 0), .long (iL 0), .long (iL 0)])
def qh43 : qH := [qc36, qc2, qc4, qc10, qc7, qc9, qc21, qc13, qc15, qc17, qc17, qc17, qc17, qc24, qc9, qc29, qc27, qc17, qc31, qc35, qc34, qc9]
def qc37 : qE := .inr (6, [.null, .null, .null, .int (iI 0), .int (iI 0), .int (iI 0), .int (iI 0), .int (iI 0)])
def qh44 : qH := [qc36, qc2, qc4, qc10, qc7, qc9, qc21, qc13, qc15, qc17, qc17, qc17, qc17, qc24, qc9, qc29, qc27, qc17, qc31, qc35, qc34, qc9, qc37]
def qc38 : qE := .inl (5, 3, .inr (.inr (.inr (.inr (fun _ => none)))))
def qh45 : qH := [qc36, qc2, qc4, qc10, qc7, qc9, qc21, qc13, qc15, qc17, qc17, qc17, qc17, qc24, qc9, qc29, qc27, qc17, qc31, qc35, qc34, qc9, qc37, qc38]
def qc39 : qE := .inr (6, [.ref 23, .null, .null, .int (iI 0), .int (iI 0), .int (iI 0), .int (iI 0), .int (iI 0)])
def qh46 : qH := [qc36, qc2, qc4, qc10, qc7, qc9, qc21, qc13, qc15, qc17, qc17, qc17, qc17, qc24, qc9, qc29, qc27, qc17, qc31, qc35, qc34, qc9, qc39, qc38]
def qc40 : qE := .inl (0, 3, .inl (fun _ => 0))
def qh47 : qH := [qc36, qc2, qc4, qc10, qc7, qc9, qc21, qc13, qc15, qc17, qc17, qc17, qc17, qc24, qc9, qc29, qc27, qc17, qc31, qc35, qc34, qc9, qc39, qc38, qc40]
def qc41 : qE := .inr (6, [.ref 23, .ref 24, .null, .int (iI 0), .int (iI 0), .int (iI 0), .int (iI 0), .int (iI 0)])
def qh48 : qH := [qc36, qc2, qc4, qc10, qc7, qc9, qc21, qc13, qc15, qc17, qc17, qc17, qc17, qc24, qc9, qc29, qc27, qc17, qc31, qc35, qc34, qc9, qc41, qc38, qc40]
def qh49 : qH := [qc36, qc2, qc4, qc10, qc7, qc9, qc21, qc13, qc15, qc17, qc17, qc17, qc17, qc24, qc9, qc29, qc27, qc17, qc31, qc35, qc34, qc9, qc41, qc38, qc40, qc40]
def qc42 : qE := .inr (6, [.ref 23, .ref 24, .ref 25, .int (iI 0), .int (iI 0), .int (iI 0), .int (iI 0), .int (iI 0)])
def qh50 : qH := [qc36, qc2, qc4, qc10, qc7, qc9, qc21, qc13, qc15, qc17, qc17, qc17, qc17, qc24, qc9, qc29, qc27, qc17, qc31, qc35, qc34, qc9, qc42, qc38, qc40, qc40]
def qh51 : qH := [qc36, qc2, qc4, qc10, qc7, qc9, qc21, qc13, qc15, qc17, qc17, qc17, qc17, qc24, qc9, qc29, qc27, qc17, qc31, qc35, qc34, qc9, qc42, qc38, qc40, qc40, qc23]
def qh52 : qH := [qc36, qc2, qc4, qc10, qc7, qc9, qc21, qc13, qc15, qc17, qc17, qc17, qc17, qc24, qc9, qc29, qc27, qc17, qc31, qc35, qc34, qc9, qc42, qc38, qc40, qc40, qc23, qc9]
def qc43 : qE := .inr (1, [.ref 27, .int (iI 0), .int (iI 0), .int (iI 0), .int (iI 0)])
def qh53 : qH := [qc36, qc2, qc4, qc10, qc7, qc9, qc21, qc13, qc15, qc17, qc17, qc17, qc17, qc24, qc9, qc29, qc27, qc17, qc31, qc35, qc34, qc9, qc42, qc38, qc40, qc40, qc43, qc9]
set_option maxRecDepth 40000 in
theorem ct_X1_init_26 {l : Launch} {G : qG} : qM l G 1 yX1_init cX1_init 1 none [.ref 26] qh51 (some (none, qh53)) := by
  refine qM_of (L := [some (.ref 26)]) (by decide +kernel) (Nat.le_of_ble_eq_true rfl) rfl ?_
  refine J_aload_n (pc := 0) dX1_init_0 rfl rfl rfl ?_
  refine J_objInit (pc := 1) (by decide) lm_X1_3 (Nat.le_of_ble_eq_true rfl) dX1_init_1 ?_
  refine J_aload_n (pc := 4) dX1_init_4 rfl rfl rfl ?_
  refine J_bipush (pc := 5) dX1_init_5 (by decide) (by decide) ?_
  refine J_newarray (pc := 7) (t := 0) (N := 16) (ty := .int) (by decide) rfl ac_int (fun _ => rfl) rfl (fun _ _ h => h) dX1_init_7 (by decide +kernel) (by decide) ?_
  show qJ _ _ _ _ _ _ _ _ _ _ qh52 _
  refine J_putfinal (pc := 9) (ci := 1) (k := 0) rfl inX1 (by decide) lf_X1_9 tyX1 tyX1_ok nmX1 rfl rfl rfl dX1_init_9 rfl (by decide) rfl rfl ?_
  show qJ _ _ _ _ _ _ _ _ _ _ qh53 _
  refine J_aload_n (pc := 12) dX1_init_12 rfl rfl rfl ?_
  refine J_iconst (pc := 13) dX1_init_13 ?_
  refine J_putfield (pc := 14) (ci := 1) (k := 1) rfl inX1 (by decide) lf_X1_15 tyX1 tyX1_ok nmX1 rfl dX1_init_14 rfl (by decide) rfl rfl ?_
  show qJ _ _ _ _ _ _ _ _ _ _ qh53 _
  refine J_aload_n (pc := 17) dX1_init_17 rfl rfl rfl ?_
  refine J_iconst (pc := 18) dX1_init_18 ?_
  refine J_putfield (pc := 19) (ci := 1) (k := 2) rfl inX1 (by decide) lf_X1_19 tyX1 tyX1_ok nmX1 rfl dX1_init_19 rfl (by decide) rfl rfl ?_
  show qJ _ _ _ _ _ _ _ _ _ _ qh53 _
  refine J_aload_n (pc := 22) dX1_init_22 rfl rfl rfl ?_
  refine J_iconst (pc := 23) dX1_init_23 ?_
  refine J_putfield (pc := 24) (ci := 1) (k := 3) rfl inX1 (by decide) lf_X1_22 tyX1 tyX1_ok nmX1 rfl dX1_init_24 rfl (by decide) rfl rfl ?_
  show qJ _ _ _ _ _ _ _ _ _ _ qh53 _
  refine J_aload_n (pc := 27) dX1_init_27 rfl rfl rfl ?_
  refine J_iconst (pc := 28) dX1_init_28 ?_
  refine J_putfield (pc := 29) (ci := 1) (k := 4) rfl inX1 (by decide) lf_X1_25 tyX1 tyX1_ok nmX1 rfl dX1_init_29 rfl (by decide) rfl rfl ?_
  show qJ _ _ _ _ _ _ _ _ _ _ qh53 _
  exact J_ret (pc := 32) (r := none) dX1_init_32 (Or.inr (Or.inr ⟨rfl, rfl, rfl⟩)) rfl
def qc44 : qE := .inl (5, 3, .inr (.inr (.inr (.inr (va_up (fun _ => none) 0 (some 26))))))
def qh54 : qH := [qc36, qc2, qc4, qc10, qc7, qc9, qc21, qc13, qc15, qc17, qc17, qc17, qc17, qc24, qc9, qc29, qc27, qc17, qc31, qc35, qc34, qc9, qc42, qc44, qc40, qc40, qc43, qc9]
def qh55 : qH := [qc36, qc2, qc4, qc10, qc7, qc9, qc21, qc13, qc15, qc17, qc17, qc17, qc17, qc24, qc9, qc29, qc27, qc17, qc31, qc35, qc34, qc9, qc42, qc44, qc40, qc40, qc43, qc9, qc23]
def qh56 : qH := [qc36, qc2, qc4, qc10, qc7, qc9, qc21, qc13, qc15, qc17, qc17, qc17, qc17, qc24, qc9, qc29, qc27, qc17, qc31, qc35, qc34, qc9, qc42, qc44, qc40, qc40, qc43, qc9, qc23, qc9]
def qc45 : qE := .inr (1, [.ref 29, .int (iI 0), .int (iI 0), .int (iI 0), .int (iI 0)])
def qh57 : qH := [qc36, qc2, qc4, qc10, qc7, qc9, qc21, qc13, qc15, qc17, qc17, qc17, qc17, qc24, qc9, qc29, qc27, qc17, qc31, qc35, qc34, qc9, qc42, qc44, qc40, qc40, qc43, qc9, qc45, qc9]
set_option maxRecDepth 40000 in
theorem ct_X1_init_28 {l : Launch} {G : qG} : qM l G 1 yX1_init cX1_init 1 none [.ref 28] qh55 (some (none, qh57)) := by
  refine qM_of (L := [some (.ref 28)]) (by decide +kernel) (Nat.le_of_ble_eq_true rfl) rfl ?_
  refine J_aload_n (pc := 0) dX1_init_0 rfl rfl rfl ?_
  refine J_objInit (pc := 1) (by decide) lm_X1_3 (Nat.le_of_ble_eq_true rfl) dX1_init_1 ?_
  refine J_aload_n (pc := 4) dX1_init_4 rfl rfl rfl ?_
  refine J_bipush (pc := 5) dX1_init_5 (by decide) (by decide) ?_
  refine J_newarray (pc := 7) (t := 0) (N := 16) (ty := .int) (by decide) rfl ac_int (fun _ => rfl) rfl (fun _ _ h => h) dX1_init_7 (by decide +kernel) (by decide) ?_
  show qJ _ _ _ _ _ _ _ _ _ _ qh56 _
  refine J_putfinal (pc := 9) (ci := 1) (k := 0) rfl inX1 (by decide) lf_X1_9 tyX1 tyX1_ok nmX1 rfl rfl rfl dX1_init_9 rfl (by decide) rfl rfl ?_
  show qJ _ _ _ _ _ _ _ _ _ _ qh57 _
  refine J_aload_n (pc := 12) dX1_init_12 rfl rfl rfl ?_
  refine J_iconst (pc := 13) dX1_init_13 ?_
  refine J_putfield (pc := 14) (ci := 1) (k := 1) rfl inX1 (by decide) lf_X1_15 tyX1 tyX1_ok nmX1 rfl dX1_init_14 rfl (by decide) rfl rfl ?_
  show qJ _ _ _ _ _ _ _ _ _ _ qh57 _
  refine J_aload_n (pc := 17) dX1_init_17 rfl rfl rfl ?_
  refine J_iconst (pc := 18) dX1_init_18 ?_
  refine J_putfield (pc := 19) (ci := 1) (k := 2) rfl inX1 (by decide) lf_X1_19 tyX1 tyX1_ok nmX1 rfl dX1_init_19 rfl (by decide) rfl rfl ?_
  show qJ _ _ _ _ _ _ _ _ _ _ qh57 _
  refine J_aload_n (pc := 22) dX1_init_22 rfl rfl rfl ?_
  refine J_iconst (pc := 23) dX1_init_23 ?_
  refine J_putfield (pc := 24) (ci := 1) (k := 3) rfl inX1 (by decide) lf_X1_22 tyX1 tyX1_ok nmX1 rfl dX1_init_24 rfl (by decide) rfl rfl ?_
  show qJ _ _ _ _ _ _ _ _ _ _ qh57 _
  refine J_aload_n (pc := 27) dX1_init_27 rfl rfl rfl ?_
  refine J_iconst (pc := 28) dX1_init_28 ?_
  refine J_putfield (pc := 29) (ci := 1) (k := 4) rfl inX1 (by decide) lf_X1_25 tyX1 tyX1_ok nmX1 rfl dX1_init_29 rfl (by decide) rfl rfl ?_
  show qJ _ _ _ _ _ _ _ _ _ _ qh57 _
  exact J_ret (pc := 32) (r := none) dX1_init_32 (Or.inr (Or.inr ⟨rfl, rfl, rfl⟩)) rfl
def qc46 : qE := .inl (5, 3, .inr (.inr (.inr (.inr (va_up (va_up (fun _ => none) 0 (some 26)) 1 (some 28))))))
def qh58 : qH := [qc36, qc2, qc4, qc10, qc7, qc9, qc21, qc13, qc15, qc17, qc17, qc17, qc17, qc24, qc9, qc29, qc27, qc17, qc31, qc35, qc34, qc9, qc42, qc46, qc40, qc40, qc43, qc9, qc45, qc9]
def qh59 : qH := [qc36, qc2, qc4, qc10, qc7, qc9, qc21, qc13, qc15, qc17, qc17, qc17, qc17, qc24, qc9, qc29, qc27, qc17, qc31, qc35, qc34, qc9, qc42, qc46, qc40, qc40, qc43, qc9, qc45, qc9, qc23]
def qh60 : qH := [qc36, qc2, qc4, qc10, qc7, qc9, qc21, qc13, qc15, qc17, qc17, qc17, qc17, qc24, qc9, qc29, qc27, qc17, qc31, qc35, qc34, qc9, qc42, qc46, qc40, qc40, qc43, qc9, qc45, qc9, qc23, qc9]
def qc47 : qE := .inr (1, [.ref 31, .int (iI 0), .int (iI 0), .int (iI 0), .int (iI 0)])
def qh61 : qH := [qc36, qc2, qc4, qc10, qc7, qc9, qc21, qc13, qc15, qc17, qc17, qc17, qc17, qc24, qc9, qc29, qc27, qc17, qc31, qc35, qc34, qc9, qc42, qc46, qc40, qc40, qc43, qc9, qc45, qc9, qc47, qc9]
set_option maxRecDepth 40000 in
theorem ct_X1_init_30 {l : Launch} {G : qG} : qM l G 1 yX1_init cX1_init 1 none [.ref 30] qh59 (some (none, qh61)) := by
  refine qM_of (L := [some (.ref 30)]) (by decide +kernel) (Nat.le_of_ble_eq_true rfl) rfl ?_
  refine J_aload_n (pc := 0) dX1_init_0 rfl rfl rfl ?_
  refine J_objInit (pc := 1) (by decide) lm_X1_3 (Nat.le_of_ble_eq_true rfl) dX1_init_1 ?_
  refine J_aload_n (pc := 4) dX1_init_4 rfl rfl rfl ?_
  refine J_bipush (pc := 5) dX1_init_5 (by decide) (by decide) ?_
  refine J_newarray (pc := 7) (t := 0) (N := 16) (ty := .int) (by decide) rfl ac_int (fun _ => rfl) rfl (fun _ _ h => h) dX1_init_7 (by decide +kernel) (by decide) ?_
  show qJ _ _ _ _ _ _ _ _ _ _ qh60 _
  refine J_putfinal (pc := 9) (ci := 1) (k := 0) rfl inX1 (by decide) lf_X1_9 tyX1 tyX1_ok nmX1 rfl rfl rfl dX1_init_9 rfl (by decide) rfl rfl ?_
  show qJ _ _ _ _ _ _ _ _ _ _ qh61 _
  refine J_aload_n (pc := 12) dX1_init_12 rfl rfl rfl ?_
  refine J_iconst (pc := 13) dX1_init_13 ?_
  refine J_putfield (pc := 14) (ci := 1) (k := 1) rfl inX1 (by decide) lf_X1_15 tyX1 tyX1_ok nmX1 rfl dX1_init_14 rfl (by decide) rfl rfl ?_
  show qJ _ _ _ _ _ _ _ _ _ _ qh61 _
  refine J_aload_n (pc := 17) dX1_init_17 rfl rfl rfl ?_
  refine J_iconst (pc := 18) dX1_init_18 ?_
  refine J_putfield (pc := 19) (ci := 1) (k := 2) rfl inX1 (by decide) lf_X1_19 tyX1 tyX1_ok nmX1 rfl dX1_init_19 rfl (by decide) rfl rfl ?_
  show qJ _ _ _ _ _ _ _ _ _ _ qh61 _
  refine J_aload_n (pc := 22) dX1_init_22 rfl rfl rfl ?_
  refine J_iconst (pc := 23) dX1_init_23 ?_
  refine J_putfield (pc := 24) (ci := 1) (k := 3) rfl inX1 (by decide) lf_X1_22 tyX1 tyX1_ok nmX1 rfl dX1_init_24 rfl (by decide) rfl rfl ?_
  show qJ _ _ _ _ _ _ _ _ _ _ qh61 _
  refine J_aload_n (pc := 27) dX1_init_27 rfl rfl rfl ?_
  refine J_iconst (pc := 28) dX1_init_28 ?_
  refine J_putfield (pc := 29) (ci := 1) (k := 4) rfl inX1 (by decide) lf_X1_25 tyX1 tyX1_ok nmX1 rfl dX1_init_29 rfl (by decide) rfl rfl ?_
  show qJ _ _ _ _ _ _ _ _ _ _ qh61 _
  exact J_ret (pc := 32) (r := none) dX1_init_32 (Or.inr (Or.inr ⟨rfl, rfl, rfl⟩)) rfl
def qc48 : qE := .inl (5, 3, .inr (.inr (.inr (.inr (va_up (va_up (va_up (fun _ => none) 0 (some 26)) 1 (some 28)) 2 (some 30))))))
def qh62 : qH := [qc36, qc2, qc4, qc10, qc7, qc9, qc21, qc13, qc15, qc17, qc17, qc17, qc17, qc24, qc9, qc29, qc27, qc17, qc31, qc35, qc34, qc9, qc42, qc48, qc40, qc40, qc43, qc9, qc45, qc9, qc47, qc9]
set_option maxRecDepth 40000 in
theorem ct_X6_init_22 {l : Launch} {G : qG} : qM l G 2 yX6_init cX6_init 2 none [.ref 22] qh44 (some (none, qh62)) := by
  refine qM_of (L := [some (.ref 22), none]) (by decide +kernel) (Nat.le_of_ble_eq_true rfl) rfl ?_
  refine J_aload_n (pc := 0) dX6_init_0 rfl rfl rfl ?_
  refine J_objInit (pc := 1) (by decide) lm_X6_3 (Nat.le_of_ble_eq_true rfl) dX6_init_1 ?_
  refine J_aload_n (pc := 4) dX6_init_4 rfl rfl rfl ?_
  refine J_iconst (pc := 5) dX6_init_5 ?_
  refine J_anewarray (pc := 6) (t := 5) (N := 3) (C := RX1) (by decide) (by simp [qnw, RX1]) (fun _ => rfl) lc_X6_9 dX6_init_6 (by decide +kernel) (by decide) ?_
  show qJ _ _ _ _ _ _ _ _ _ _ qh45 _
  refine J_putfinal (pc := 9) (ci := 6) (k := 0) rfl inX6 (by decide) lf_X6_11 tyX6 tyX6_ok nmX6 rfl rfl rfl dX6_init_9 rfl (by decide) rfl rfl ?_
  show qJ _ _ _ _ _ _ _ _ _ _ qh46 _
  refine J_aload_n (pc := 12) dX6_init_12 rfl rfl rfl ?_
  refine J_iconst (pc := 13) dX6_init_13 ?_
  refine J_newarray (pc := 14) (t := 0) (N := 3) (ty := .int) (by decide) rfl ac_int (fun _ => rfl) rfl (fun _ _ h => h) dX6_init_14 (by decide +kernel) (by decide) ?_
  show qJ _ _ _ _ _ _ _ _ _ _ qh47 _
  refine J_putfinal (pc := 16) (ci := 6) (k := 1) rfl inX6 (by decide) lf_X6_17 tyX6 tyX6_ok nmX6 rfl rfl rfl dX6_init_16 rfl (by decide) rfl rfl ?_
  show qJ _ _ _ _ _ _ _ _ _ _ qh48 _
  refine J_aload_n (pc := 19) dX6_init_19 rfl rfl rfl ?_
  refine J_iconst (pc := 20) dX6_init_20 ?_
  refine J_newarray (pc := 21) (t := 0) (N := 3) (ty := .int) (by decide) rfl ac_int (fun _ => rfl) rfl (fun _ _ h => h) dX6_init_21 (by decide +kernel) (by decide) ?_
  show qJ _ _ _ _ _ _ _ _ _ _ qh49 _
  refine J_putfinal (pc := 23) (ci := 6) (k := 2) rfl inX6 (by decide) lf_X6_21 tyX6 tyX6_ok nmX6 rfl rfl rfl dX6_init_23 rfl (by decide) rfl rfl ?_
  show qJ _ _ _ _ _ _ _ _ _ _ qh50 _
  refine J_aload_n (pc := 26) dX6_init_26 rfl rfl rfl ?_
  refine J_iconst (pc := 27) dX6_init_27 ?_
  refine J_putfield (pc := 28) (ci := 6) (k := 3) rfl inX6 (by decide) lf_X6_24 tyX6 tyX6_ok nmX6 rfl dX6_init_28 rfl (by decide) rfl rfl ?_
  show qJ _ _ _ _ _ _ _ _ _ _ qh50 _
  refine J_aload_n (pc := 31) dX6_init_31 rfl rfl rfl ?_
  refine J_iconst (pc := 32) dX6_init_32 ?_
  refine J_putfield (pc := 33) (ci := 6) (k := 4) rfl inX6 (by decide) lf_X6_28 tyX6 tyX6_ok nmX6 rfl dX6_init_33 rfl (by decide) rfl rfl ?_
  show qJ _ _ _ _ _ _ _ _ _ _ qh50 _
  refine J_aload_n (pc := 36) dX6_init_36 rfl rfl rfl ?_
  refine J_iconst (pc := 37) dX6_init_37 ?_
  refine J_putfield (pc := 38) (ci := 6) (k := 5) rfl inX6 (by decide) lf_X6_31 tyX6 tyX6_ok nmX6 rfl dX6_init_38 rfl (by decide) rfl rfl ?_
  show qJ _ _ _ _ _ _ _ _ _ _ qh50 _
  refine J_aload_n (pc := 41) dX6_init_41 rfl rfl rfl ?_
  refine J_iconst (pc := 42) dX6_init_42 ?_
  refine J_putfield (pc := 43) (ci := 6) (k := 6) rfl inX6 (by decide) lf_X6_34 tyX6 tyX6_ok nmX6 rfl dX6_init_43 rfl (by decide) rfl rfl ?_
  show qJ _ _ _ _ _ _ _ _ _ _ qh50 _
  refine J_aload_n (pc := 46) dX6_init_46 rfl rfl rfl ?_
  refine J_iconst (pc := 47) dX6_init_47 ?_
  refine J_putfield (pc := 48) (ci := 6) (k := 7) rfl inX6 (by decide) lf_X6_37 tyX6 tyX6_ok nmX6 rfl dX6_init_48 rfl (by decide) rfl rfl ?_
  show qJ _ _ _ _ _ _ _ _ _ _ qh50 _
  refine J_iconst (pc := 51) dX6_init_51 ?_
  refine J_istore_n (pc := 52) (L' := [some (.ref 22), some (.int (iI 0))]) dX6_init_52 rfl (by decide) rfl rfl ?_
  refine J_iload_n (pc := 53) dX6_init_53 rfl rfl ?_
  refine J_iconst (pc := 54) dX6_init_54 ?_
  refine J_ge_f (pc := 55) (tgt := 77) dX6_init_55 (by decide) (by decide +kernel) ?_
  refine J_aload_n (pc := 58) dX6_init_58 rfl rfl rfl ?_
  refine J_getfield (pc := 59) (ci := 6) (k := 0) rfl inX6 (by decide) lf_X6_11 dX6_init_59 rfl rfl ?_
  refine J_iload_n (pc := 62) dX6_init_62 rfl rfl ?_
  refine J_new (pc := 63) (ci := 1) (fs := [.null, .int (iI 0), .int (iI 0), .int (iI 0), .int (iI 0)]) rfl inX1 tyX1 tyX1_ok ik_X1 ini_X1 (by decide +kernel) rfl (fun _ => rfl) (by decide) lc_X6_9 dX6_init_63 ?_
  show qJ _ _ _ _ _ _ _ _ _ _ qh51 _
  refine J_dup (pc := 66) dX6_init_66 rfl ?_
  refine J_callI (pc := 67) (d' := 1) (st := [.ref 26, .int (iI 0), .ref 23]) im_yX1_init ini_X1 cd_yX1_init (by decide) rfl (by decide +kernel) (Or.inr (by simp [qnw, yX6_init, RX6])) dX6_init_67 (by decide) (Nat.le_of_ble_eq_true rfl) ct_X1_init_26 (fun h => by cases h) (fun r A1 h => ?_)
  cases h
  show qJ _ _ _ _ _ _ _ _ _ [.ref 26, .int (iI 0), .ref 23] qh53 _
  refine J_aastore' (pc := 70) (ci := 1) (q9 := 0) dX6_init_70 rfl rfl (fun _ => rfl) rfl (by decide +kernel) (by decide) ?_
  show qJ _ _ _ _ _ _ _ _ _ _ qh54 _
  refine J_iinc (pc := 71) (L' := [some (.ref 22), some (.int (iI 1))]) dX6_init_71 rfl (by decide) rfl rfl ?_
  refine J_goto (pc := 74) (tgt := 53) dX6_init_74 (by decide) ?_
  refine J_iload_n (pc := 53) dX6_init_53 rfl rfl ?_
  refine J_iconst (pc := 54) dX6_init_54 ?_
  refine J_ge_f (pc := 55) (tgt := 77) dX6_init_55 (by decide) (by decide +kernel) ?_
  refine J_aload_n (pc := 58) dX6_init_58 rfl rfl rfl ?_
  refine J_getfield (pc := 59) (ci := 6) (k := 0) rfl inX6 (by decide) lf_X6_11 dX6_init_59 rfl rfl ?_
  refine J_iload_n (pc := 62) dX6_init_62 rfl rfl ?_
  refine J_new (pc := 63) (ci := 1) (fs := [.null, .int (iI 0), .int (iI 0), .int (iI 0), .int (iI 0)]) rfl inX1 tyX1 tyX1_ok ik_X1 ini_X1 (by decide +kernel) rfl (fun _ => rfl) (by decide) lc_X6_9 dX6_init_63 ?_
  show qJ _ _ _ _ _ _ _ _ _ _ qh55 _
  refine J_dup (pc := 66) dX6_init_66 rfl ?_
  refine J_callI (pc := 67) (d' := 1) (st := [.ref 28, .int (iI 1), .ref 23]) im_yX1_init ini_X1 cd_yX1_init (by decide) rfl (by decide +kernel) (Or.inr (by simp [qnw, yX6_init, RX6])) dX6_init_67 (by decide) (Nat.le_of_ble_eq_true rfl) ct_X1_init_28 (fun h => by cases h) (fun r A1 h => ?_)
  cases h
  show qJ _ _ _ _ _ _ _ _ _ [.ref 28, .int (iI 1), .ref 23] qh57 _
  refine J_aastore' (pc := 70) (ci := 1) (q9 := 1) dX6_init_70 rfl rfl (fun _ => rfl) rfl (by decide +kernel) (by decide) ?_
  show qJ _ _ _ _ _ _ _ _ _ _ qh58 _
  refine J_iinc (pc := 71) (L' := [some (.ref 22), some (.int (iI 2))]) dX6_init_71 rfl (by decide) rfl rfl ?_
  refine J_goto (pc := 74) (tgt := 53) dX6_init_74 (by decide) ?_
  refine J_iload_n (pc := 53) dX6_init_53 rfl rfl ?_
  refine J_iconst (pc := 54) dX6_init_54 ?_
  refine J_ge_f (pc := 55) (tgt := 77) dX6_init_55 (by decide) (by decide +kernel) ?_
  refine J_aload_n (pc := 58) dX6_init_58 rfl rfl rfl ?_
  refine J_getfield (pc := 59) (ci := 6) (k := 0) rfl inX6 (by decide) lf_X6_11 dX6_init_59 rfl rfl ?_
  refine J_iload_n (pc := 62) dX6_init_62 rfl rfl ?_
  refine J_new (pc := 63) (ci := 1) (fs := [.null, .int (iI 0), .int (iI 0), .int (iI 0), .int (iI 0)]) rfl inX1 tyX1 tyX1_ok ik_X1 ini_X1 (by decide +kernel) rfl (fun _ => rfl) (by decide) lc_X6_9 dX6_init_63 ?_
  show qJ _ _ _ _ _ _ _ _ _ _ qh59 _
  refine J_dup (pc := 66) dX6_init_66 rfl ?_
  refine J_callI (pc := 67) (d' := 1) (st := [.ref 30, .int (iI 2), .ref 23]) im_yX1_init ini_X1 cd_yX1_init (by decide) rfl (by decide +kernel) (Or.inr (by simp [qnw, yX6_init, RX6])) dX6_init_67 (by decide) (Nat.le_of_ble_eq_true rfl) ct_X1_init_30 (fun h => by cases h) (fun r A1 h => ?_)
  cases h
  show qJ _ _ _ _ _ _ _ _ _ [.ref 30, .int (iI 2), .ref 23] qh61 _
  refine J_aastore' (pc := 70) (ci := 1) (q9 := 2) dX6_init_70 rfl rfl (fun _ => rfl) rfl (by decide +kernel) (by decide) ?_
  show qJ _ _ _ _ _ _ _ _ _ _ qh62 _
  refine J_iinc (pc := 71) (L' := [some (.ref 22), some (.int (iI 3))]) dX6_init_71 rfl (by decide) rfl rfl ?_
  refine J_goto (pc := 74) (tgt := 53) dX6_init_74 (by decide) ?_
  refine J_iload_n (pc := 53) dX6_init_53 rfl rfl ?_
  refine J_iconst (pc := 54) dX6_init_54 ?_
  refine J_ge_t (pc := 55) (tgt := 77) dX6_init_55 (by decide) (by decide +kernel) ?_
  exact J_ret (pc := 77) (r := none) dX6_init_77 (Or.inr (Or.inr ⟨rfl, rfl, rfl⟩)) rfl
def qc49 : qE := .inr (9, [.ref 1, .ref 2, .ref 3, .ref 6, .ref 13, .ref 15, .ref 18, .ref 19, .ref 22, .null, .null, .null, .int (iI 0), .int (iI 0), .long (iL 0), .long (iL 0)])
def qh63 : qH := [qc49, qc2, qc4, qc10, qc7, qc9, qc21, qc13, qc15, qc17, qc17, qc17, qc17, qc24, qc9, qc29, qc27, qc17, qc31, qc35, qc34, qc9, qc42, qc48, qc40, qc40, qc43, qc9, qc45, qc9, qc47, qc9]
def qc50 : qE := .inr (0, [.null, .null])
def qh64 : qH := [qc49, qc2, qc4, qc10, qc7, qc9, qc21, qc13, qc15, qc17, qc17, qc17, qc17, qc24, qc9, qc29, qc27, qc17, qc31, qc35, qc34, qc9, qc42, qc48, qc40, qc40, qc43, qc9, qc45, qc9, qc47, qc9, qc50]
def qh65 : qH := [qc49, qc2, qc4, qc10, qc7, qc9, qc21, qc13, qc15, qc17, qc17, qc17, qc17, qc24, qc9, qc29, qc27, qc17, qc31, qc35, qc34, qc9, qc42, qc48, qc40, qc40, qc43, qc9, qc45, qc9, qc47, qc9, qc50, qc23]
def qh66 : qH := [qc49, qc2, qc4, qc10, qc7, qc9, qc21, qc13, qc15, qc17, qc17, qc17, qc17, qc24, qc9, qc29, qc27, qc17, qc31, qc35, qc34, qc9, qc42, qc48, qc40, qc40, qc43, qc9, qc45, qc9, qc47, qc9, qc50, qc23, qc9]
def qc51 : qE := .inr (1, [.ref 34, .int (iI 0), .int (iI 0), .int (iI 0), .int (iI 0)])
def qh67 : qH := [qc49, qc2, qc4, qc10, qc7, qc9, qc21, qc13, qc15, qc17, qc17, qc17, qc17, qc24, qc9, qc29, qc27, qc17, qc31, qc35, qc34, qc9, qc42, qc48, qc40, qc40, qc43, qc9, qc45, qc9, qc47, qc9, qc50, qc51, qc9]
set_option maxRecDepth 40000 in
theorem ct_X1_init_33 {l : Launch} {G : qG} : qM l G 1 yX1_init cX1_init 1 none [.ref 33] qh65 (some (none, qh67)) := by
  refine qM_of (L := [some (.ref 33)]) (by decide +kernel) (Nat.le_of_ble_eq_true rfl) rfl ?_
  refine J_aload_n (pc := 0) dX1_init_0 rfl rfl rfl ?_
  refine J_objInit (pc := 1) (by decide) lm_X1_3 (Nat.le_of_ble_eq_true rfl) dX1_init_1 ?_
  refine J_aload_n (pc := 4) dX1_init_4 rfl rfl rfl ?_
  refine J_bipush (pc := 5) dX1_init_5 (by decide) (by decide) ?_
  refine J_newarray (pc := 7) (t := 0) (N := 16) (ty := .int) (by decide) rfl ac_int (fun _ => rfl) rfl (fun _ _ h => h) dX1_init_7 (by decide +kernel) (by decide) ?_
  show qJ _ _ _ _ _ _ _ _ _ _ qh66 _
  refine J_putfinal (pc := 9) (ci := 1) (k := 0) rfl inX1 (by decide) lf_X1_9 tyX1 tyX1_ok nmX1 rfl rfl rfl dX1_init_9 rfl (by decide) rfl rfl ?_
  show qJ _ _ _ _ _ _ _ _ _ _ qh67 _
  refine J_aload_n (pc := 12) dX1_init_12 rfl rfl rfl ?_
  refine J_iconst (pc := 13) dX1_init_13 ?_
  refine J_putfield (pc := 14) (ci := 1) (k := 1) rfl inX1 (by decide) lf_X1_15 tyX1 tyX1_ok nmX1 rfl dX1_init_14 rfl (by decide) rfl rfl ?_
  show qJ _ _ _ _ _ _ _ _ _ _ qh67 _
  refine J_aload_n (pc := 17) dX1_init_17 rfl rfl rfl ?_
  refine J_iconst (pc := 18) dX1_init_18 ?_
  refine J_putfield (pc := 19) (ci := 1) (k := 2) rfl inX1 (by decide) lf_X1_19 tyX1 tyX1_ok nmX1 rfl dX1_init_19 rfl (by decide) rfl rfl ?_
  show qJ _ _ _ _ _ _ _ _ _ _ qh67 _
  refine J_aload_n (pc := 22) dX1_init_22 rfl rfl rfl ?_
  refine J_iconst (pc := 23) dX1_init_23 ?_
  refine J_putfield (pc := 24) (ci := 1) (k := 3) rfl inX1 (by decide) lf_X1_22 tyX1 tyX1_ok nmX1 rfl dX1_init_24 rfl (by decide) rfl rfl ?_
  show qJ _ _ _ _ _ _ _ _ _ _ qh67 _
  refine J_aload_n (pc := 27) dX1_init_27 rfl rfl rfl ?_
  refine J_iconst (pc := 28) dX1_init_28 ?_
  refine J_putfield (pc := 29) (ci := 1) (k := 4) rfl inX1 (by decide) lf_X1_25 tyX1 tyX1_ok nmX1 rfl dX1_init_29 rfl (by decide) rfl rfl ?_
  show qJ _ _ _ _ _ _ _ _ _ _ qh67 _
  exact J_ret (pc := 32) (r := none) dX1_init_32 (Or.inr (Or.inr ⟨rfl, rfl, rfl⟩)) rfl
def qc52 : qE := .inr (0, [.ref 33, .null])
def qh68 : qH := [qc49, qc2, qc4, qc10, qc7, qc9, qc21, qc13, qc15, qc17, qc17, qc17, qc17, qc24, qc9, qc29, qc27, qc17, qc31, qc35, qc34, qc9, qc42, qc48, qc40, qc40, qc43, qc9, qc45, qc9, qc47, qc9, qc52, qc51, qc9]
def qc53 : qE := .inl (0, 128, .inl (fun _ => 0))
def qh69 : qH := [qc49, qc2, qc4, qc10, qc7, qc9, qc21, qc13, qc15, qc17, qc17, qc17, qc17, qc24, qc9, qc29, qc27, qc17, qc31, qc35, qc34, qc9, qc42, qc48, qc40, qc40, qc43, qc9, qc45, qc9, qc47, qc9, qc52, qc51, qc9, qc53]
def qc54 : qE := .inr (0, [.ref 33, .ref 35])
def qh70 : qH := [qc49, qc2, qc4, qc10, qc7, qc9, qc21, qc13, qc15, qc17, qc17, qc17, qc17, qc24, qc9, qc29, qc27, qc17, qc31, qc35, qc34, qc9, qc42, qc48, qc40, qc40, qc43, qc9, qc45, qc9, qc47, qc9, qc54, qc51, qc9, qc53]
set_option maxRecDepth 40000 in
theorem ct_X0_init_32 {l : Launch} {G : qG} : qM l G 2 yX0_init cX0_init 1 none [.ref 32] qh64 (some (none, qh70)) := by
  refine qM_of (L := [some (.ref 32)]) (by decide +kernel) (Nat.le_of_ble_eq_true rfl) rfl ?_
  refine J_aload_n (pc := 0) dX0_init_0 rfl rfl rfl ?_
  refine J_objInit (pc := 1) (by decide) lm_X0_3 (Nat.le_of_ble_eq_true rfl) dX0_init_1 ?_
  refine J_aload_n (pc := 4) dX0_init_4 rfl rfl rfl ?_
  refine J_new (pc := 5) (ci := 1) (fs := [.null, .int (iI 0), .int (iI 0), .int (iI 0), .int (iI 0)]) rfl inX1 tyX1 tyX1_ok ik_X1 ini_X1 (by decide +kernel) rfl (fun _ => rfl) (by decide) lc_X0_9 dX0_init_5 ?_
  show qJ _ _ _ _ _ _ _ _ _ _ qh65 _
  refine J_dup (pc := 8) dX0_init_8 rfl ?_
  refine J_callI (pc := 9) (d' := 1) (st := [.ref 33, .ref 32]) im_yX1_init ini_X1 cd_yX1_init (by decide) rfl (by decide +kernel) (Or.inr (by simp [qnw, yX0_init, RX0])) dX0_init_9 (by decide) (Nat.le_of_ble_eq_true rfl) ct_X1_init_33 (fun h => by cases h) (fun r A1 h => ?_)
  cases h
  show qJ _ _ _ _ _ _ _ _ _ [.ref 33, .ref 32] qh67 _
  refine J_putfinal (pc := 12) (ci := 0) (k := 0) rfl inX0 (by decide) lf_X0_12 tyX0 tyX0_ok nmX0 rfl rfl rfl dX0_init_12 rfl (by decide) rfl rfl ?_
  show qJ _ _ _ _ _ _ _ _ _ _ qh68 _
  refine J_aload_n (pc := 15) dX0_init_15 rfl rfl rfl ?_
  refine J_sipush (pc := 16) dX0_init_16 (by decide) (by decide) ?_
  refine J_newarray (pc := 19) (t := 0) (N := 128) (ty := .int) (by decide) rfl ac_int (fun _ => rfl) rfl (fun _ _ h => h) dX0_init_19 (by decide +kernel) (by decide) ?_
  show qJ _ _ _ _ _ _ _ _ _ _ qh69 _
  refine J_putfinal (pc := 21) (ci := 0) (k := 1) rfl inX0 (by decide) lf_X0_18 tyX0 tyX0_ok nmX0 rfl rfl rfl dX0_init_21 rfl (by decide) rfl rfl ?_
  show qJ _ _ _ _ _ _ _ _ _ _ qh70 _
  exact J_ret (pc := 24) (r := none) dX0_init_24 (Or.inr (Or.inr ⟨rfl, rfl, rfl⟩)) rfl
def qc55 : qE := .inr (9, [.ref 1, .ref 2, .ref 3, .ref 6, .ref 13, .ref 15, .ref 18, .ref 19, .ref 22, .ref 32, .null, .null, .int (iI 0), .int (iI 0), .long (iL 0), .long (iL 0)])
def qh71 : qH := [qc55, qc2, qc4, qc10, qc7, qc9, qc21, qc13, qc15, qc17, qc17, qc17, qc17, qc24, qc9, qc29, qc27, qc17, qc31, qc35, qc34, qc9, qc42, qc48, qc40, qc40, qc43, qc9, qc45, qc9, qc47, qc9, qc54, qc51, qc9, qc53]
def qh72 : qH := [qc55, qc2, qc4, qc10, qc7, qc9, qc21, qc13, qc15, qc17, qc17, qc17, qc17, qc24, qc9, qc29, qc27, qc17, qc31, qc35, qc34, qc9, qc42, qc48, qc40, qc40, qc43, qc9, qc45, qc9, qc47, qc9, qc54, qc51, qc9, qc53, qc13]
def qc56 : qE := .inr (9, [.ref 1, .ref 2, .ref 3, .ref 6, .ref 13, .ref 15, .ref 18, .ref 19, .ref 22, .ref 32, .ref 36, .null, .int (iI 0), .int (iI 0), .long (iL 0), .long (iL 0)])
def qh73 : qH := [qc56, qc2, qc4, qc10, qc7, qc9, qc21, qc13, qc15, qc17, qc17, qc17, qc17, qc24, qc9, qc29, qc27, qc17, qc31, qc35, qc34, qc9, qc42, qc48, qc40, qc40, qc43, qc9, qc45, qc9, qc47, qc9, qc54, qc51, qc9, qc53, qc13]
def qh74 : qH := [qc56, qc2, qc4, qc10, qc7, qc9, qc21, qc13, qc15, qc17, qc17, qc17, qc17, qc24, qc9, qc29, qc27, qc17, qc31, qc35, qc34, qc9, qc42, qc48, qc40, qc40, qc43, qc9, qc45, qc9, qc47, qc9, qc54, qc51, qc9, qc53, qc13, qc15]
def qc57 : qE := .inr (9, [.ref 1, .ref 2, .ref 3, .ref 6, .ref 13, .ref 15, .ref 18, .ref 19, .ref 22, .ref 32, .ref 36, .ref 37, .int (iI 0), .int (iI 0), .long (iL 0), .long (iL 0)])
def qh75 : qH := [qc57, qc2, qc4, qc10, qc7, qc9, qc21, qc13, qc15, qc17, qc17, qc17, qc17, qc24, qc9, qc29, qc27, qc17, qc31, qc35, qc34, qc9, qc42, qc48, qc40, qc40, qc43, qc9, qc45, qc9, qc47, qc9, qc54, qc51, qc9, qc53, qc13, qc15]
def qc58 : qE := .inr (9, [.ref 1, .ref 2, .ref 3, .ref 6, .ref 13, .ref 15, .ref 18, .ref 19, .ref 22, .ref 32, .ref 36, .ref 37, .int (iI 0), .int (iI 0), .long (iL 0), .long (iL 1)])
def qh76 : qH := [qc58, qc2, qc4, qc10, qc7, qc9, qc21, qc13, qc15, qc17, qc17, qc17, qc17, qc24, qc9, qc29, qc27, qc17, qc31, qc35, qc34, qc9, qc42, qc48, qc40, qc40, qc43, qc9, qc45, qc9, qc47, qc9, qc54, qc51, qc9, qc53, qc13, qc15]
def qc59 : qE := .inr (5, [.null, .int (iI 0)])
def qh77 : qH := [qc58, qc2, qc4, qc10, qc7, qc9, qc21, qc13, qc15, qc17, qc17, qc17, qc17, qc24, qc9, qc29, qc27, qc17, qc31, qc35, qc34, qc9, qc42, qc48, qc40, qc40, qc43, qc9, qc45, qc9, qc47, qc9, qc54, qc51, qc9, qc53, qc13, qc15, qc59]
def qc60 : qE := .inl (0, 40, .inl (fun _ => 0))
def qh78 : qH := [qc58, qc2, qc4, qc10, qc7, qc9, qc21, qc13, qc15, qc17, qc17, qc17, qc17, qc24, qc9, qc29, qc27, qc17, qc31, qc35, qc34, qc9, qc42, qc48, qc40, qc40, qc43, qc9, qc45, qc9, qc47, qc9, qc54, qc51, qc9, qc53, qc13, qc15, qc59, qc60]
def qc61 : qE := .inr (5, [.ref 39, .int (iI 0)])
def qh79 : qH := [qc58, qc2, qc4, qc10, qc7, qc9, qc21, qc13, qc15, qc17, qc17, qc17, qc17, qc24, qc9, qc29, qc27, qc17, qc31, qc35, qc34, qc9, qc42, qc48, qc40, qc40, qc43, qc9, qc45, qc9, qc47, qc9, qc54, qc51, qc9, qc53, qc13, qc15, qc61, qc60]
def qc62 : qE := .inr (5, [.ref 39, .int (iI (-1))])
def qh80 : qH := [qc58, qc2, qc4, qc10, qc7, qc9, qc21, qc13, qc15, qc17, qc17, qc17, qc17, qc24, qc9, qc29, qc27, qc17, qc31, qc35, qc34, qc9, qc42, qc48, qc40, qc40, qc43, qc9, qc45, qc9, qc47, qc9, qc54, qc51, qc9, qc53, qc13, qc15, qc62, qc60]
set_option maxRecDepth 40000 in
theorem ct_X5_init_38 {l : Launch} {G : qG} : qM l G 1 yX5_init cX5_init 1 none [.ref 38] qh77 (some (none, qh80)) := by
  refine qM_of (L := [some (.ref 38)]) (by decide +kernel) (Nat.le_of_ble_eq_true rfl) rfl ?_
  refine J_aload_n (pc := 0) dX5_init_0 rfl rfl rfl ?_
  refine J_objInit (pc := 1) (by decide) lm_X5_3 (Nat.le_of_ble_eq_true rfl) dX5_init_1 ?_
  refine J_aload_n (pc := 4) dX5_init_4 rfl rfl rfl ?_
  refine J_bipush (pc := 5) dX5_init_5 (by decide) (by decide) ?_
  refine J_newarray (pc := 7) (t := 0) (N := 40) (ty := .int) (by decide) rfl ac_int (fun _ => rfl) rfl (fun _ _ h => h) dX5_init_7 (by decide +kernel) (by decide) ?_
  show qJ _ _ _ _ _ _ _ _ _ _ qh78 _
  refine J_putfinal (pc := 9) (ci := 5) (k := 0) rfl inX5 (by decide) lf_X5_9 tyX5 tyX5_ok nmX5 rfl rfl rfl dX5_init_9 rfl (by decide) rfl rfl ?_
  show qJ _ _ _ _ _ _ _ _ _ _ qh79 _
  refine J_aload_n (pc := 12) dX5_init_12 rfl rfl rfl ?_
  refine J_iconst (pc := 13) dX5_init_13 ?_
  refine J_putfield (pc := 14) (ci := 5) (k := 1) rfl inX5 (by decide) lf_X5_15 tyX5 tyX5_ok nmX5 rfl dX5_init_14 rfl (by decide) rfl rfl ?_
  show qJ _ _ _ _ _ _ _ _ _ _ qh80 _
  exact J_ret (pc := 17) (r := none) dX5_init_17 (Or.inr (Or.inr ⟨rfl, rfl, rfl⟩)) rfl
def qc63 : qE := .inl (2, 6, .inr (.inr (.inr (.inr (va_up (fun _ => none) 0 (some 38))))))
def qh81 : qH := [qc58, qc63, qc4, qc10, qc7, qc9, qc21, qc13, qc15, qc17, qc17, qc17, qc17, qc24, qc9, qc29, qc27, qc17, qc31, qc35, qc34, qc9, qc42, qc48, qc40, qc40, qc43, qc9, qc45, qc9, qc47, qc9, qc54, qc51, qc9, qc53, qc13, qc15, qc62, qc60]
def qh82 : qH := [qc58, qc63, qc4, qc10, qc7, qc9, qc21, qc13, qc15, qc17, qc17, qc17, qc17, qc24, qc9, qc29, qc27, qc17, qc31, qc35, qc34, qc9, qc42, qc48, qc40, qc40, qc43, qc9, qc45, qc9, qc47, qc9, qc54, qc51, qc9, qc53, qc13, qc15, qc62, qc60, qc59]
def qh83 : qH := [qc58, qc63, qc4, qc10, qc7, qc9, qc21, qc13, qc15, qc17, qc17, qc17, qc17, qc24, qc9, qc29, qc27, qc17, qc31, qc35, qc34, qc9, qc42, qc48, qc40, qc40, qc43, qc9, qc45, qc9, qc47, qc9, qc54, qc51, qc9, qc53, qc13, qc15, qc62, qc60, qc59, qc60]
def qc64 : qE := .inr (5, [.ref 41, .int (iI 0)])
def qh84 : qH := [qc58, qc63, qc4, qc10, qc7, qc9, qc21, qc13, qc15, qc17, qc17, qc17, qc17, qc24, qc9, qc29, qc27, qc17, qc31, qc35, qc34, qc9, qc42, qc48, qc40, qc40, qc43, qc9, qc45, qc9, qc47, qc9, qc54, qc51, qc9, qc53, qc13, qc15, qc62, qc60, qc64, qc60]
def qc65 : qE := .inr (5, [.ref 41, .int (iI (-1))])
def qh85 : qH := [qc58, qc63, qc4, qc10, qc7, qc9, qc21, qc13, qc15, qc17, qc17, qc17, qc17, qc24, qc9, qc29, qc27, qc17, qc31, qc35, qc34, qc9, qc42, qc48, qc40, qc40, qc43, qc9, qc45, qc9, qc47, qc9, qc54, qc51, qc9, qc53, qc13, qc15, qc62, qc60, qc65, qc60]
set_option maxRecDepth 40000 in
theorem ct_X5_init_40 {l : Launch} {G : qG} : qM l G 1 yX5_init cX5_init 1 none [.ref 40] qh82 (some (none, qh85)) := by
  refine qM_of (L := [some (.ref 40)]) (by decide +kernel) (Nat.le_of_ble_eq_true rfl) rfl ?_
  refine J_aload_n (pc := 0) dX5_init_0 rfl rfl rfl ?_
  refine J_objInit (pc := 1) (by decide) lm_X5_3 (Nat.le_of_ble_eq_true rfl) dX5_init_1 ?_
  refine J_aload_n (pc := 4) dX5_init_4 rfl rfl rfl ?_
  refine J_bipush (pc := 5) dX5_init_5 (by decide) (by decide) ?_
  refine J_newarray (pc := 7) (t := 0) (N := 40) (ty := .int) (by decide) rfl ac_int (fun _ => rfl) rfl (fun _ _ h => h) dX5_init_7 (by decide +kernel) (by decide) ?_
  show qJ _ _ _ _ _ _ _ _ _ _ qh83 _
  refine J_putfinal (pc := 9) (ci := 5) (k := 0) rfl inX5 (by decide) lf_X5_9 tyX5 tyX5_ok nmX5 rfl rfl rfl dX5_init_9 rfl (by decide) rfl rfl ?_
  show qJ _ _ _ _ _ _ _ _ _ _ qh84 _
  refine J_aload_n (pc := 12) dX5_init_12 rfl rfl rfl ?_
  refine J_iconst (pc := 13) dX5_init_13 ?_
  refine J_putfield (pc := 14) (ci := 5) (k := 1) rfl inX5 (by decide) lf_X5_15 tyX5 tyX5_ok nmX5 rfl dX5_init_14 rfl (by decide) rfl rfl ?_
  show qJ _ _ _ _ _ _ _ _ _ _ qh85 _
  exact J_ret (pc := 17) (r := none) dX5_init_17 (Or.inr (Or.inr ⟨rfl, rfl, rfl⟩)) rfl
def qc66 : qE := .inl (2, 6, .inr (.inr (.inr (.inr (va_up (va_up (fun _ => none) 0 (some 38)) 1 (some 40))))))
def qh86 : qH := [qc58, qc66, qc4, qc10, qc7, qc9, qc21, qc13, qc15, qc17, qc17, qc17, qc17, qc24, qc9, qc29, qc27, qc17, qc31, qc35, qc34, qc9, qc42, qc48, qc40, qc40, qc43, qc9, qc45, qc9, qc47, qc9, qc54, qc51, qc9, qc53, qc13, qc15, qc62, qc60, qc65, qc60]
def qh87 : qH := [qc58, qc66, qc4, qc10, qc7, qc9, qc21, qc13, qc15, qc17, qc17, qc17, qc17, qc24, qc9, qc29, qc27, qc17, qc31, qc35, qc34, qc9, qc42, qc48, qc40, qc40, qc43, qc9, qc45, qc9, qc47, qc9, qc54, qc51, qc9, qc53, qc13, qc15, qc62, qc60, qc65, qc60, qc59]
def qh88 : qH := [qc58, qc66, qc4, qc10, qc7, qc9, qc21, qc13, qc15, qc17, qc17, qc17, qc17, qc24, qc9, qc29, qc27, qc17, qc31, qc35, qc34, qc9, qc42, qc48, qc40, qc40, qc43, qc9, qc45, qc9, qc47, qc9, qc54, qc51, qc9, qc53, qc13, qc15, qc62, qc60, qc65, qc60, qc59, qc60]
def qc67 : qE := .inr (5, [.ref 43, .int (iI 0)])
def qh89 : qH := [qc58, qc66, qc4, qc10, qc7, qc9, qc21, qc13, qc15, qc17, qc17, qc17, qc17, qc24, qc9, qc29, qc27, qc17, qc31, qc35, qc34, qc9, qc42, qc48, qc40, qc40, qc43, qc9, qc45, qc9, qc47, qc9, qc54, qc51, qc9, qc53, qc13, qc15, qc62, qc60, qc65, qc60, qc67, qc60]
def qc68 : qE := .inr (5, [.ref 43, .int (iI (-1))])
def qh90 : qH := [qc58, qc66, qc4, qc10, qc7, qc9, qc21, qc13, qc15, qc17, qc17, qc17, qc17, qc24, qc9, qc29, qc27, qc17, qc31, qc35, qc34, qc9, qc42, qc48, qc40, qc40, qc43, qc9, qc45, qc9, qc47, qc9, qc54, qc51, qc9, qc53, qc13, qc15, qc62, qc60, qc65, qc60, qc68, qc60]
set_option maxRecDepth 40000 in
theorem ct_X5_init_42 {l : Launch} {G : qG} : qM l G 1 yX5_init cX5_init 1 none [.ref 42] qh87 (some (none, qh90)) := by
  refine qM_of (L := [some (.ref 42)]) (by decide +kernel) (Nat.le_of_ble_eq_true rfl) rfl ?_
  refine J_aload_n (pc := 0) dX5_init_0 rfl rfl rfl ?_
  refine J_objInit (pc := 1) (by decide) lm_X5_3 (Nat.le_of_ble_eq_true rfl) dX5_init_1 ?_
  refine J_aload_n (pc := 4) dX5_init_4 rfl rfl rfl ?_
  refine J_bipush (pc := 5) dX5_init_5 (by decide) (by decide) ?_
  refine J_newarray (pc := 7) (t := 0) (N := 40) (ty := .int) (by decide) rfl ac_int (fun _ => rfl) rfl (fun _ _ h => h) dX5_init_7 (by decide +kernel) (by decide) ?_
  show qJ _ _ _ _ _ _ _ _ _ _ qh88 _
  refine J_putfinal (pc := 9) (ci := 5) (k := 0) rfl inX5 (by decide) lf_X5_9 tyX5 tyX5_ok nmX5 rfl rfl rfl dX5_init_9 rfl (by decide) rfl rfl ?_
  show qJ _ _ _ _ _ _ _ _ _ _ qh89 _
  refine J_aload_n (pc := 12) dX5_init_12 rfl rfl rfl ?_
  refine J_iconst (pc := 13) dX5_init_13 ?_
  refine J_putfield (pc := 14) (ci := 5) (k := 1) rfl inX5 (by decide) lf_X5_15 tyX5 tyX5_ok nmX5 rfl dX5_init_14 rfl (by decide) rfl rfl ?_
  show qJ _ _ _ _ _ _ _ _ _ _ qh90 _
  exact J_ret (pc := 17) (r := none) dX5_init_17 (Or.inr (Or.inr ⟨rfl, rfl, rfl⟩)) rfl
def qc69 : qE := .inl (2, 6, .inr (.inr (.inr (.inr (va_up (va_up (va_up (fun _ => none) 0 (some 38)) 1 (some 40)) 2 (some 42))))))
def qh91 : qH := [qc58, qc69, qc4, qc10, qc7, qc9, qc21, qc13, qc15, qc17, qc17, qc17, qc17, qc24, qc9, qc29, qc27, qc17, qc31, qc35, qc34, qc9, qc42, qc48, qc40, qc40, qc43, qc9, qc45, qc9, qc47, qc9, qc54, qc51, qc9, qc53, qc13, qc15, qc62, qc60, qc65, qc60, qc68, qc60]
def qh92 : qH := [qc58, qc69, qc4, qc10, qc7, qc9, qc21, qc13, qc15, qc17, qc17, qc17, qc17, qc24, qc9, qc29, qc27, qc17, qc31, qc35, qc34, qc9, qc42, qc48, qc40, qc40, qc43, qc9, qc45, qc9, qc47, qc9, qc54, qc51, qc9, qc53, qc13, qc15, qc62, qc60, qc65, qc60, qc68, qc60, qc59]
def qh93 : qH := [qc58, qc69, qc4, qc10, qc7, qc9, qc21, qc13, qc15, qc17, qc17, qc17, qc17, qc24, qc9, qc29, qc27, qc17, qc31, qc35, qc34, qc9, qc42, qc48, qc40, qc40, qc43, qc9, qc45, qc9, qc47, qc9, qc54, qc51, qc9, qc53, qc13, qc15, qc62, qc60, qc65, qc60, qc68, qc60, qc59, qc60]
def qc70 : qE := .inr (5, [.ref 45, .int (iI 0)])
def qh94 : qH := [qc58, qc69, qc4, qc10, qc7, qc9, qc21, qc13, qc15, qc17, qc17, qc17, qc17, qc24, qc9, qc29, qc27, qc17, qc31, qc35, qc34, qc9, qc42, qc48, qc40, qc40, qc43, qc9, qc45, qc9, qc47, qc9, qc54, qc51, qc9, qc53, qc13, qc15, qc62, qc60, qc65, qc60, qc68, qc60, qc70, qc60]
def qc71 : qE := .inr (5, [.ref 45, .int (iI (-1))])
def qh95 : qH := [qc58, qc69, qc4, qc10, qc7, qc9, qc21, qc13, qc15, qc17, qc17, qc17, qc17, qc24, qc9, qc29, qc27, qc17, qc31, qc35, qc34, qc9, qc42, qc48, qc40, qc40, qc43, qc9, qc45, qc9, qc47, qc9, qc54, qc51, qc9, qc53, qc13, qc15, qc62, qc60, qc65, qc60, qc68, qc60, qc71, qc60]
set_option maxRecDepth 40000 in
theorem ct_X5_init_44 {l : Launch} {G : qG} : qM l G 1 yX5_init cX5_init 1 none [.ref 44] qh92 (some (none, qh95)) := by
  refine qM_of (L := [some (.ref 44)]) (by decide +kernel) (Nat.le_of_ble_eq_true rfl) rfl ?_
  refine J_aload_n (pc := 0) dX5_init_0 rfl rfl rfl ?_
  refine J_objInit (pc := 1) (by decide) lm_X5_3 (Nat.le_of_ble_eq_true rfl) dX5_init_1 ?_
  refine J_aload_n (pc := 4) dX5_init_4 rfl rfl rfl ?_
  refine J_bipush (pc := 5) dX5_init_5 (by decide) (by decide) ?_
  refine J_newarray (pc := 7) (t := 0) (N := 40) (ty := .int) (by decide) rfl ac_int (fun _ => rfl) rfl (fun _ _ h => h) dX5_init_7 (by decide +kernel) (by decide) ?_
  show qJ _ _ _ _ _ _ _ _ _ _ qh93 _
  refine J_putfinal (pc := 9) (ci := 5) (k := 0) rfl inX5 (by decide) lf_X5_9 tyX5 tyX5_ok nmX5 rfl rfl rfl dX5_init_9 rfl (by decide) rfl rfl ?_
  show qJ _ _ _ _ _ _ _ _ _ _ qh94 _
  refine J_aload_n (pc := 12) dX5_init_12 rfl rfl rfl ?_
  refine J_iconst (pc := 13) dX5_init_13 ?_
  refine J_putfield (pc := 14) (ci := 5) (k := 1) rfl inX5 (by decide) lf_X5_15 tyX5 tyX5_ok nmX5 rfl dX5_init_14 rfl (by decide) rfl rfl ?_
  show qJ _ _ _ _ _ _ _ _ _ _ qh95 _
  exact J_ret (pc := 17) (r := none) dX5_init_17 (Or.inr (Or.inr ⟨rfl, rfl, rfl⟩)) rfl
def qc72 : qE := .inl (2, 6, .inr (.inr (.inr (.inr (va_up (va_up (va_up (va_up (fun _ => none) 0 (some 38)) 1 (some 40)) 2 (some 42)) 3 (some 44))))))
def qh96 : qH := [qc58, qc72, qc4, qc10, qc7, qc9, qc21, qc13, qc15, qc17, qc17, qc17, qc17, qc24, qc9, qc29, qc27, qc17, qc31, qc35, qc34, qc9, qc42, qc48, qc40, qc40, qc43, qc9, qc45, qc9, qc47, qc9, qc54, qc51, qc9, qc53, qc13, qc15, qc62, qc60, qc65, qc60, qc68, qc60, qc71, qc60]
def qh97 : qH := [qc58, qc72, qc4, qc10, qc7, qc9, qc21, qc13, qc15, qc17, qc17, qc17, qc17, qc24, qc9, qc29, qc27, qc17, qc31, qc35, qc34, qc9, qc42, qc48, qc40, qc40, qc43, qc9, qc45, qc9, qc47, qc9, qc54, qc51, qc9, qc53, qc13, qc15, qc62, qc60, qc65, qc60, qc68, qc60, qc71, qc60, qc59]
def qh98 : qH := [qc58, qc72, qc4, qc10, qc7, qc9, qc21, qc13, qc15, qc17, qc17, qc17, qc17, qc24, qc9, qc29, qc27, qc17, qc31, qc35, qc34, qc9, qc42, qc48, qc40, qc40, qc43, qc9, qc45, qc9, qc47, qc9, qc54, qc51, qc9, qc53, qc13, qc15, qc62, qc60, qc65, qc60, qc68, qc60, qc71, qc60, qc59, qc60]
def qc73 : qE := .inr (5, [.ref 47, .int (iI 0)])
def qh99 : qH := [qc58, qc72, qc4, qc10, qc7, qc9, qc21, qc13, qc15, qc17, qc17, qc17, qc17, qc24, qc9, qc29, qc27, qc17, qc31, qc35, qc34, qc9, qc42, qc48, qc40, qc40, qc43, qc9, qc45, qc9, qc47, qc9, qc54, qc51, qc9, qc53, qc13, qc15, qc62, qc60, qc65, qc60, qc68, qc60, qc71, qc60, qc73, qc60]
def qc74 : qE := .inr (5, [.ref 47, .int (iI (-1))])
def qh100 : qH := [qc58, qc72, qc4, qc10, qc7, qc9, qc21, qc13, qc15, qc17, qc17, qc17, qc17, qc24, qc9, qc29, qc27, qc17, qc31, qc35, qc34, qc9, qc42, qc48, qc40, qc40, qc43, qc9, qc45, qc9, qc47, qc9, qc54, qc51, qc9, qc53, qc13, qc15, qc62, qc60, qc65, qc60, qc68, qc60, qc71, qc60, qc74, qc60]
set_option maxRecDepth 40000 in
theorem ct_X5_init_46 {l : Launch} {G : qG} : qM l G 1 yX5_init cX5_init 1 none [.ref 46] qh97 (some (none, qh100)) := by
  refine qM_of (L := [some (.ref 46)]) (by decide +kernel) (Nat.le_of_ble_eq_true rfl) rfl ?_
  refine J_aload_n (pc := 0) dX5_init_0 rfl rfl rfl ?_
  refine J_objInit (pc := 1) (by decide) lm_X5_3 (Nat.le_of_ble_eq_true rfl) dX5_init_1 ?_
  refine J_aload_n (pc := 4) dX5_init_4 rfl rfl rfl ?_
  refine J_bipush (pc := 5) dX5_init_5 (by decide) (by decide) ?_
  refine J_newarray (pc := 7) (t := 0) (N := 40) (ty := .int) (by decide) rfl ac_int (fun _ => rfl) rfl (fun _ _ h => h) dX5_init_7 (by decide +kernel) (by decide) ?_
  show qJ _ _ _ _ _ _ _ _ _ _ qh98 _
  refine J_putfinal (pc := 9) (ci := 5) (k := 0) rfl inX5 (by decide) lf_X5_9 tyX5 tyX5_ok nmX5 rfl rfl rfl dX5_init_9 rfl (by decide) rfl rfl ?_
  show qJ _ _ _ _ _ _ _ _ _ _ qh99 _
  refine J_aload_n (pc := 12) dX5_init_12 rfl rfl rfl ?_
  refine J_iconst (pc := 13) dX5_init_13 ?_
  refine J_putfield (pc := 14) (ci := 5) (k := 1) rfl inX5 (by decide) lf_X5_15 tyX5 tyX5_ok nmX5 rfl dX5_init_14 rfl (by decide) rfl rfl ?_
  show qJ _ _ _ _ _ _ _ _ _ _ qh100 _
  exact J_ret (pc := 17) (r := none) dX5_init_17 (Or.inr (Or.inr ⟨rfl, rfl, rfl⟩)) rfl
def qc75 : qE := .inl (2, 6, .inr (.inr (.inr (.inr (va_up (va_up (va_up (va_up (va_up (fun _ => none) 0 (some 38)) 1 (some 40)) 2 (some 42)) 3 (some 44)) 4 (some 46))))))
def qh101 : qH := [qc58, qc75, qc4, qc10, qc7, qc9, qc21, qc13, qc15, qc17, qc17, qc17, qc17, qc24, qc9, qc29, qc27, qc17, qc31, qc35, qc34, qc9, qc42, qc48, qc40, qc40, qc43, qc9, qc45, qc9, qc47, qc9, qc54, qc51, qc9, qc53, qc13, qc15, qc62, qc60, qc65, qc60, qc68, qc60, qc71, qc60, qc74, qc60]
def qh102 : qH := [qc58, qc75, qc4, qc10, qc7, qc9, qc21, qc13, qc15, qc17, qc17, qc17, qc17, qc24, qc9, qc29, qc27, qc17, qc31, qc35, qc34, qc9, qc42, qc48, qc40, qc40, qc43, qc9, qc45, qc9, qc47, qc9, qc54, qc51, qc9, qc53, qc13, qc15, qc62, qc60, qc65, qc60, qc68, qc60, qc71, qc60, qc74, qc60, qc59]
def qh103 : qH := [qc58, qc75, qc4, qc10, qc7, qc9, qc21, qc13, qc15, qc17, qc17, qc17, qc17, qc24, qc9, qc29, qc27, qc17, qc31, qc35, qc34, qc9, qc42, qc48, qc40, qc40, qc43, qc9, qc45, qc9, qc47, qc9, qc54, qc51, qc9, qc53, qc13, qc15, qc62, qc60, qc65, qc60, qc68, qc60, qc71, qc60, qc74, qc60, qc59, qc60]
def qc76 : qE := .inr (5, [.ref 49, .int (iI 0)])
def qh104 : qH := [qc58, qc75, qc4, qc10, qc7, qc9, qc21, qc13, qc15, qc17, qc17, qc17, qc17, qc24, qc9, qc29, qc27, qc17, qc31, qc35, qc34, qc9, qc42, qc48, qc40, qc40, qc43, qc9, qc45, qc9, qc47, qc9, qc54, qc51, qc9, qc53, qc13, qc15, qc62, qc60, qc65, qc60, qc68, qc60, qc71, qc60, qc74, qc60, qc76, qc60]
def qc77 : qE := .inr (5, [.ref 49, .int (iI (-1))])
def qh105 : qH := [qc58, qc75, qc4, qc10, qc7, qc9, qc21, qc13, qc15, qc17, qc17, qc17, qc17, qc24, qc9, qc29, qc27, qc17, qc31, qc35, qc34, qc9, qc42, qc48, qc40, qc40, qc43, qc9, qc45, qc9, qc47, qc9, qc54, qc51, qc9, qc53, qc13, qc15, qc62, qc60, qc65, qc60, qc68, qc60, qc71, qc60, qc74, qc60, qc77, qc60]
set_option maxRecDepth 40000 in
theorem ct_X5_init_48 {l : Launch} {G : qG} : qM l G 1 yX5_init cX5_init 1 none [.ref 48] qh102 (some (none, qh105)) := by
  refine qM_of (L := [some (.ref 48)]) (by decide +kernel) (Nat.le_of_ble_eq_true rfl) rfl ?_
  refine J_aload_n (pc := 0) dX5_init_0 rfl rfl rfl ?_
  refine J_objInit (pc := 1) (by decide) lm_X5_3 (Nat.le_of_ble_eq_true rfl) dX5_init_1 ?_
  refine J_aload_n (pc := 4) dX5_init_4 rfl rfl rfl ?_
  refine J_bipush (pc := 5) dX5_init_5 (by decide) (by decide) ?_
  refine J_newarray (pc := 7) (t := 0) (N := 40) (ty := .int) (by decide) rfl ac_int (fun _ => rfl) rfl (fun _ _ h => h) dX5_init_7 (by decide +kernel) (by decide) ?_
  show qJ _ _ _ _ _ _ _ _ _ _ qh103 _
  refine J_putfinal (pc := 9) (ci := 5) (k := 0) rfl inX5 (by decide) lf_X5_9 tyX5 tyX5_ok nmX5 rfl rfl rfl dX5_init_9 rfl (by decide) rfl rfl ?_
  show qJ _ _ _ _ _ _ _ _ _ _ qh104 _
  refine J_aload_n (pc := 12) dX5_init_12 rfl rfl rfl ?_
  refine J_iconst (pc := 13) dX5_init_13 ?_
  refine J_putfield (pc := 14) (ci := 5) (k := 1) rfl inX5 (by decide) lf_X5_15 tyX5 tyX5_ok nmX5 rfl dX5_init_14 rfl (by decide) rfl rfl ?_
  show qJ _ _ _ _ _ _ _ _ _ _ qh105 _
  exact J_ret (pc := 17) (r := none) dX5_init_17 (Or.inr (Or.inr ⟨rfl, rfl, rfl⟩)) rfl
def qc78 : qE := .inl (2, 6, .inr (.inr (.inr (.inr (va_up (va_up (va_up (va_up (va_up (va_up (fun _ => none) 0 (some 38)) 1 (some 40)) 2 (some 42)) 3 (some 44)) 4 (some 46)) 5 (some 48))))))
def qh106 : qH := [qc58, qc78, qc4, qc10, qc7, qc9, qc21, qc13, qc15, qc17, qc17, qc17, qc17, qc24, qc9, qc29, qc27, qc17, qc31, qc35, qc34, qc9, qc42, qc48, qc40, qc40, qc43, qc9, qc45, qc9, qc47, qc9, qc54, qc51, qc9, qc53, qc13, qc15, qc62, qc60, qc65, qc60, qc68, qc60, qc71, qc60, qc74, qc60, qc77, qc60]
def qc79 : qE := .inr (7, [.null, .int (iI 0)])
def qh107 : qH := [qc58, qc78, qc4, qc10, qc7, qc9, qc21, qc13, qc15, qc17, qc17, qc17, qc17, qc24, qc9, qc29, qc27, qc17, qc31, qc35, qc34, qc9, qc42, qc48, qc40, qc40, qc43, qc9, qc45, qc9, qc47, qc9, qc54, qc51, qc9, qc53, qc13, qc15, qc62, qc60, qc65, qc60, qc68, qc60, qc71, qc60, qc74, qc60, qc77, qc60, qc79]
def qc80 : qE := .inl (1, 60, .inl (fun _ => 0))
def qh108 : qH := [qc58, qc78, qc4, qc10, qc7, qc9, qc21, qc13, qc15, qc17, qc17, qc17, qc17, qc24, qc9, qc29, qc27, qc17, qc31, qc35, qc34, qc9, qc42, qc48, qc40, qc40, qc43, qc9, qc45, qc9, qc47, qc9, qc54, qc51, qc9, qc53, qc13, qc15, qc62, qc60, qc65, qc60, qc68, qc60, qc71, qc60, qc74, qc60, qc77, qc60, qc79, qc80]
def qc81 : qE := .inr (7, [.ref 51, .int (iI 0)])
def qh109 : qH := [qc58, qc78, qc4, qc10, qc7, qc9, qc21, qc13, qc15, qc17, qc17, qc17, qc17, qc24, qc9, qc29, qc27, qc17, qc31, qc35, qc34, qc9, qc42, qc48, qc40, qc40, qc43, qc9, qc45, qc9, qc47, qc9, qc54, qc51, qc9, qc53, qc13, qc15, qc62, qc60, qc65, qc60, qc68, qc60, qc71, qc60, qc74, qc60, qc77, qc60, qc81, qc80]
def qc82 : qE := .inr (7, [.ref 51, .int (iI (-1))])
def qh110 : qH := [qc58, qc78, qc4, qc10, qc7, qc9, qc21, qc13, qc15, qc17, qc17, qc17, qc17, qc24, qc9, qc29, qc27, qc17, qc31, qc35, qc34, qc9, qc42, qc48, qc40, qc40, qc43, qc9, qc45, qc9, qc47, qc9, qc54, qc51, qc9, qc53, qc13, qc15, qc62, qc60, qc65, qc60, qc68, qc60, qc71, qc60, qc74, qc60, qc77, qc60, qc82, qc80]
set_option maxRecDepth 40000 in
theorem ct_X7_init_50 {l : Launch} {G : qG} : qM l G 1 yX7_init cX7_init 1 none [.ref 50] qh107 (some (none, qh110)) := by
  refine qM_of (L := [some (.ref 50)]) (by decide +kernel) (Nat.le_of_ble_eq_true rfl) rfl ?_
  refine J_aload_n (pc := 0) dX7_init_0 rfl rfl rfl ?_
  refine J_objInit (pc := 1) (by decide) lm_X7_3 (Nat.le_of_ble_eq_true rfl) dX7_init_1 ?_
  refine J_aload_n (pc := 4) dX7_init_4 rfl rfl rfl ?_
  refine J_bipush (pc := 5) dX7_init_5 (by decide) (by decide) ?_
  refine J_newarray (pc := 7) (t := 1) (N := 60) (ty := .byte) (by decide) rfl ac_byte (fun _ => rfl) rfl (fun _ _ h => h) dX7_init_7 (by decide +kernel) (by decide) ?_
  show qJ _ _ _ _ _ _ _ _ _ _ qh108 _
  refine J_putfinal (pc := 9) (ci := 7) (k := 0) rfl inX7 (by decide) lf_X7_9 tyX7 tyX7_ok nmX7 rfl rfl rfl dX7_init_9 rfl (by decide) rfl rfl ?_
  show qJ _ _ _ _ _ _ _ _ _ _ qh109 _
  refine J_aload_n (pc := 12) dX7_init_12 rfl rfl rfl ?_
  refine J_iconst (pc := 13) dX7_init_13 ?_
  refine J_putfield (pc := 14) (ci := 7) (k := 1) rfl inX7 (by decide) lf_X7_15 tyX7 tyX7_ok nmX7 rfl dX7_init_14 rfl (by decide) rfl rfl ?_
  show qJ _ _ _ _ _ _ _ _ _ _ qh110 _
  exact J_ret (pc := 17) (r := none) dX7_init_17 (Or.inr (Or.inr ⟨rfl, rfl, rfl⟩)) rfl
def qc83 : qE := .inl (3, 4, .inr (.inr (.inr (.inr (va_up (fun _ => none) 0 (some 50))))))
def qh111 : qH := [qc58, qc78, qc83, qc10, qc7, qc9, qc21, qc13, qc15, qc17, qc17, qc17, qc17, qc24, qc9, qc29, qc27, qc17, qc31, qc35, qc34, qc9, qc42, qc48, qc40, qc40, qc43, qc9, qc45, qc9, qc47, qc9, qc54, qc51, qc9, qc53, qc13, qc15, qc62, qc60, qc65, qc60, qc68, qc60, qc71, qc60, qc74, qc60, qc77, qc60, qc82, qc80]
def qh112 : qH := [qc58, qc78, qc83, qc10, qc7, qc9, qc21, qc13, qc15, qc17, qc17, qc17, qc17, qc24, qc9, qc29, qc27, qc17, qc31, qc35, qc34, qc9, qc42, qc48, qc40, qc40, qc43, qc9, qc45, qc9, qc47, qc9, qc54, qc51, qc9, qc53, qc13, qc15, qc62, qc60, qc65, qc60, qc68, qc60, qc71, qc60, qc74, qc60, qc77, qc60, qc82, qc80, qc79]
def qh113 : qH := [qc58, qc78, qc83, qc10, qc7, qc9, qc21, qc13, qc15, qc17, qc17, qc17, qc17, qc24, qc9, qc29, qc27, qc17, qc31, qc35, qc34, qc9, qc42, qc48, qc40, qc40, qc43, qc9, qc45, qc9, qc47, qc9, qc54, qc51, qc9, qc53, qc13, qc15, qc62, qc60, qc65, qc60, qc68, qc60, qc71, qc60, qc74, qc60, qc77, qc60, qc82, qc80, qc79, qc80]
def qc84 : qE := .inr (7, [.ref 53, .int (iI 0)])
def qh114 : qH := [qc58, qc78, qc83, qc10, qc7, qc9, qc21, qc13, qc15, qc17, qc17, qc17, qc17, qc24, qc9, qc29, qc27, qc17, qc31, qc35, qc34, qc9, qc42, qc48, qc40, qc40, qc43, qc9, qc45, qc9, qc47, qc9, qc54, qc51, qc9, qc53, qc13, qc15, qc62, qc60, qc65, qc60, qc68, qc60, qc71, qc60, qc74, qc60, qc77, qc60, qc82, qc80, qc84, qc80]
def qc85 : qE := .inr (7, [.ref 53, .int (iI (-1))])
def qh115 : qH := [qc58, qc78, qc83, qc10, qc7, qc9, qc21, qc13, qc15, qc17, qc17, qc17, qc17, qc24, qc9, qc29, qc27, qc17, qc31, qc35, qc34, qc9, qc42, qc48, qc40, qc40, qc43, qc9, qc45, qc9, qc47, qc9, qc54, qc51, qc9, qc53, qc13, qc15, qc62, qc60, qc65, qc60, qc68, qc60, qc71, qc60, qc74, qc60, qc77, qc60, qc82, qc80, qc85, qc80]
set_option maxRecDepth 40000 in
theorem ct_X7_init_52 {l : Launch} {G : qG} : qM l G 1 yX7_init cX7_init 1 none [.ref 52] qh112 (some (none, qh115)) := by
  refine qM_of (L := [some (.ref 52)]) (by decide +kernel) (Nat.le_of_ble_eq_true rfl) rfl ?_
  refine J_aload_n (pc := 0) dX7_init_0 rfl rfl rfl ?_
  refine J_objInit (pc := 1) (by decide) lm_X7_3 (Nat.le_of_ble_eq_true rfl) dX7_init_1 ?_
  refine J_aload_n (pc := 4) dX7_init_4 rfl rfl rfl ?_
  refine J_bipush (pc := 5) dX7_init_5 (by decide) (by decide) ?_
  refine J_newarray (pc := 7) (t := 1) (N := 60) (ty := .byte) (by decide) rfl ac_byte (fun _ => rfl) rfl (fun _ _ h => h) dX7_init_7 (by decide +kernel) (by decide) ?_
  show qJ _ _ _ _ _ _ _ _ _ _ qh113 _
  refine J_putfinal (pc := 9) (ci := 7) (k := 0) rfl inX7 (by decide) lf_X7_9 tyX7 tyX7_ok nmX7 rfl rfl rfl dX7_init_9 rfl (by decide) rfl rfl ?_
  show qJ _ _ _ _ _ _ _ _ _ _ qh114 _
  refine J_aload_n (pc := 12) dX7_init_12 rfl rfl rfl ?_
  refine J_iconst (pc := 13) dX7_init_13 ?_
  refine J_putfield (pc := 14) (ci := 7) (k := 1) rfl inX7 (by decide) lf_X7_15 tyX7 tyX7_ok nmX7 rfl dX7_init_14 rfl (by decide) rfl rfl ?_
  show qJ _ _ _ _ _ _ _ _ _ _ qh115 _
  exact J_ret (pc := 17) (r := none) dX7_init_17 (Or.inr (Or.inr ⟨rfl, rfl, rfl⟩)) rfl
def qc86 : qE := .inl (3, 4, .inr (.inr (.inr (.inr (va_up (va_up (fun _ => none) 0 (some 50)) 1 (some 52))))))
def qh116 : qH := [qc58, qc78, qc86, qc10, qc7, qc9, qc21, qc13, qc15, qc17, qc17, qc17, qc17, qc24, qc9, qc29, qc27, qc17, qc31, qc35, qc34, qc9, qc42, qc48, qc40, qc40, qc43, qc9, qc45, qc9, qc47, qc9, qc54, qc51, qc9, qc53, qc13, qc15, qc62, qc60, qc65, qc60, qc68, qc60, qc71, qc60, qc74, qc60, qc77, qc60, qc82, qc80, qc85, qc80]
def qh117 : qH := [qc58, qc78, qc86, qc10, qc7, qc9, qc21, qc13, qc15, qc17, qc17, qc17, qc17, qc24, qc9, qc29, qc27, qc17, qc31, qc35, qc34, qc9, qc42, qc48, qc40, qc40, qc43, qc9, qc45, qc9, qc47, qc9, qc54, qc51, qc9, qc53, qc13, qc15, qc62, qc60, qc65, qc60, qc68, qc60, qc71, qc60, qc74, qc60, qc77, qc60, qc82, qc80, qc85, qc80, qc79]
def qh118 : qH := [qc58, qc78, qc86, qc10, qc7, qc9, qc21, qc13, qc15, qc17, qc17, qc17, qc17, qc24, qc9, qc29, qc27, qc17, qc31, qc35, qc34, qc9, qc42, qc48, qc40, qc40, qc43, qc9, qc45, qc9, qc47, qc9, qc54, qc51, qc9, qc53, qc13, qc15, qc62, qc60, qc65, qc60, qc68, qc60, qc71, qc60, qc74, qc60, qc77, qc60, qc82, qc80, qc85, qc80, qc79, qc80]
def qc87 : qE := .inr (7, [.ref 55, .int (iI 0)])
def qh119 : qH := [qc58, qc78, qc86, qc10, qc7, qc9, qc21, qc13, qc15, qc17, qc17, qc17, qc17, qc24, qc9, qc29, qc27, qc17, qc31, qc35, qc34, qc9, qc42, qc48, qc40, qc40, qc43, qc9, qc45, qc9, qc47, qc9, qc54, qc51, qc9, qc53, qc13, qc15, qc62, qc60, qc65, qc60, qc68, qc60, qc71, qc60, qc74, qc60, qc77, qc60, qc82, qc80, qc85, qc80, qc87, qc80]
def qc88 : qE := .inr (7, [.ref 55, .int (iI (-1))])
def qh120 : qH := [qc58, qc78, qc86, qc10, qc7, qc9, qc21, qc13, qc15, qc17, qc17, qc17, qc17, qc24, qc9, qc29, qc27, qc17, qc31, qc35, qc34, qc9, qc42, qc48, qc40, qc40, qc43, qc9, qc45, qc9, qc47, qc9, qc54, qc51, qc9, qc53, qc13, qc15, qc62, qc60, qc65, qc60, qc68, qc60, qc71, qc60, qc74, qc60, qc77, qc60, qc82, qc80, qc85, qc80, qc88, qc80]
set_option maxRecDepth 40000 in
theorem ct_X7_init_54 {l : Launch} {G : qG} : qM l G 1 yX7_init cX7_init 1 none [.ref 54] qh117 (some (none, qh120)) := by
  refine qM_of (L := [some (.ref 54)]) (by decide +kernel) (Nat.le_of_ble_eq_true rfl) rfl ?_
  refine J_aload_n (pc := 0) dX7_init_0 rfl rfl rfl ?_
  refine J_objInit (pc := 1) (by decide) lm_X7_3 (Nat.le_of_ble_eq_true rfl) dX7_init_1 ?_
  refine J_aload_n (pc := 4) dX7_init_4 rfl rfl rfl ?_
  refine J_bipush (pc := 5) dX7_init_5 (by decide) (by decide) ?_
  refine J_newarray (pc := 7) (t := 1) (N := 60) (ty := .byte) (by decide) rfl ac_byte (fun _ => rfl) rfl (fun _ _ h => h) dX7_init_7 (by decide +kernel) (by decide) ?_
  show qJ _ _ _ _ _ _ _ _ _ _ qh118 _
  refine J_putfinal (pc := 9) (ci := 7) (k := 0) rfl inX7 (by decide) lf_X7_9 tyX7 tyX7_ok nmX7 rfl rfl rfl dX7_init_9 rfl (by decide) rfl rfl ?_
  show qJ _ _ _ _ _ _ _ _ _ _ qh119 _
  refine J_aload_n (pc := 12) dX7_init_12 rfl rfl rfl ?_
  refine J_iconst (pc := 13) dX7_init_13 ?_
  refine J_putfield (pc := 14) (ci := 7) (k := 1) rfl inX7 (by decide) lf_X7_15 tyX7 tyX7_ok nmX7 rfl dX7_init_14 rfl (by decide) rfl rfl ?_
  show qJ _ _ _ _ _ _ _ _ _ _ qh120 _
  exact J_ret (pc := 17) (r := none) dX7_init_17 (Or.inr (Or.inr ⟨rfl, rfl, rfl⟩)) rfl
def qc89 : qE := .inl (3, 4, .inr (.inr (.inr (.inr (va_up (va_up (va_up (fun _ => none) 0 (some 50)) 1 (some 52)) 2 (some 54))))))
def qh121 : qH := [qc58, qc78, qc89, qc10, qc7, qc9, qc21, qc13, qc15, qc17, qc17, qc17, qc17, qc24, qc9, qc29, qc27, qc17, qc31, qc35, qc34, qc9, qc42, qc48, qc40, qc40, qc43, qc9, qc45, qc9, qc47, qc9, qc54, qc51, qc9, qc53, qc13, qc15, qc62, qc60, qc65, qc60, qc68, qc60, qc71, qc60, qc74, qc60, qc77, qc60, qc82, qc80, qc85, qc80, qc88, qc80]
def qh122 : qH := [qc58, qc78, qc89, qc10, qc7, qc9, qc21, qc13, qc15, qc17, qc17, qc17, qc17, qc24, qc9, qc29, qc27, qc17, qc31, qc35, qc34, qc9, qc42, qc48, qc40, qc40, qc43, qc9, qc45, qc9, qc47, qc9, qc54, qc51, qc9, qc53, qc13, qc15, qc62, qc60, qc65, qc60, qc68, qc60, qc71, qc60, qc74, qc60, qc77, qc60, qc82, qc80, qc85, qc80, qc88, qc80, qc79]
def qh123 : qH := [qc58, qc78, qc89, qc10, qc7, qc9, qc21, qc13, qc15, qc17, qc17, qc17, qc17, qc24, qc9, qc29, qc27, qc17, qc31, qc35, qc34, qc9, qc42, qc48, qc40, qc40, qc43, qc9, qc45, qc9, qc47, qc9, qc54, qc51, qc9, qc53, qc13, qc15, qc62, qc60, qc65, qc60, qc68, qc60, qc71, qc60, qc74, qc60, qc77, qc60, qc82, qc80, qc85, qc80, qc88, qc80, qc79, qc80]
def qc90 : qE := .inr (7, [.ref 57, .int (iI 0)])
def qh124 : qH := [qc58, qc78, qc89, qc10, qc7, qc9, qc21, qc13, qc15, qc17, qc17, qc17, qc17, qc24, qc9, qc29, qc27, qc17, qc31, qc35, qc34, qc9, qc42, qc48, qc40, qc40, qc43, qc9, qc45, qc9, qc47, qc9, qc54, qc51, qc9, qc53, qc13, qc15, qc62, qc60, qc65, qc60, qc68, qc60, qc71, qc60, qc74, qc60, qc77, qc60, qc82, qc80, qc85, qc80, qc88, qc80, qc90, qc80]
def qc91 : qE := .inr (7, [.ref 57, .int (iI (-1))])
def qh125 : qH := [qc58, qc78, qc89, qc10, qc7, qc9, qc21, qc13, qc15, qc17, qc17, qc17, qc17, qc24, qc9, qc29, qc27, qc17, qc31, qc35, qc34, qc9, qc42, qc48, qc40, qc40, qc43, qc9, qc45, qc9, qc47, qc9, qc54, qc51, qc9, qc53, qc13, qc15, qc62, qc60, qc65, qc60, qc68, qc60, qc71, qc60, qc74, qc60, qc77, qc60, qc82, qc80, qc85, qc80, qc88, qc80, qc91, qc80]
set_option maxRecDepth 40000 in
theorem ct_X7_init_56 {l : Launch} {G : qG} : qM l G 1 yX7_init cX7_init 1 none [.ref 56] qh122 (some (none, qh125)) := by
  refine qM_of (L := [some (.ref 56)]) (by decide +kernel) (Nat.le_of_ble_eq_true rfl) rfl ?_
  refine J_aload_n (pc := 0) dX7_init_0 rfl rfl rfl ?_
  refine J_objInit (pc := 1) (by decide) lm_X7_3 (Nat.le_of_ble_eq_true rfl) dX7_init_1 ?_
  refine J_aload_n (pc := 4) dX7_init_4 rfl rfl rfl ?_
  refine J_bipush (pc := 5) dX7_init_5 (by decide) (by decide) ?_
  refine J_newarray (pc := 7) (t := 1) (N := 60) (ty := .byte) (by decide) rfl ac_byte (fun _ => rfl) rfl (fun _ _ h => h) dX7_init_7 (by decide +kernel) (by decide) ?_
  show qJ _ _ _ _ _ _ _ _ _ _ qh123 _
  refine J_putfinal (pc := 9) (ci := 7) (k := 0) rfl inX7 (by decide) lf_X7_9 tyX7 tyX7_ok nmX7 rfl rfl rfl dX7_init_9 rfl (by decide) rfl rfl ?_
  show qJ _ _ _ _ _ _ _ _ _ _ qh124 _
  refine J_aload_n (pc := 12) dX7_init_12 rfl rfl rfl ?_
  refine J_iconst (pc := 13) dX7_init_13 ?_
  refine J_putfield (pc := 14) (ci := 7) (k := 1) rfl inX7 (by decide) lf_X7_15 tyX7 tyX7_ok nmX7 rfl dX7_init_14 rfl (by decide) rfl rfl ?_
  show qJ _ _ _ _ _ _ _ _ _ _ qh125 _
  exact J_ret (pc := 17) (r := none) dX7_init_17 (Or.inr (Or.inr ⟨rfl, rfl, rfl⟩)) rfl
def qc92 : qE := .inl (3, 4, .inr (.inr (.inr (.inr (va_up (va_up (va_up (va_up (fun _ => none) 0 (some 50)) 1 (some 52)) 2 (some 54)) 3 (some 56))))))
def qh126 : qH := [qc58, qc78, qc92, qc10, qc7, qc9, qc21, qc13, qc15, qc17, qc17, qc17, qc17, qc24, qc9, qc29, qc27, qc17, qc31, qc35, qc34, qc9, qc42, qc48, qc40, qc40, qc43, qc9, qc45, qc9, qc47, qc9, qc54, qc51, qc9, qc53, qc13, qc15, qc62, qc60, qc65, qc60, qc68, qc60, qc71, qc60, qc74, qc60, qc77, qc60, qc82, qc80, qc85, qc80, qc88, qc80, qc91, qc80]
def qh127 : qH := [qc58, qc78, qc92, qc10, qc7, qc9, qc21, qc13, qc15, qc17, qc17, qc17, qc17, qc24, qc9, qc29, qc27, qc17, qc31, qc35, qc34, qc9, qc42, qc48, qc40, qc40, qc43, qc9, qc45, qc9, qc47, qc9, qc54, qc51, qc9, qc53, qc13, qc15, qc62, qc60, qc65, qc60, qc68, qc60, qc71, qc60, qc74, qc60, qc77, qc60, qc82, qc80, qc85, qc80, qc88, qc80, qc91, qc80, qc26]
def qh128 : qH := [qc58, qc78, qc92, qc10, qc7, qc9, qc21, qc13, qc15, qc17, qc17, qc17, qc17, qc24, qc9, qc29, qc27, qc17, qc31, qc35, qc34, qc9, qc42, qc48, qc40, qc40, qc43, qc9, qc45, qc9, qc47, qc9, qc54, qc51, qc9, qc53, qc13, qc15, qc62, qc60, qc65, qc60, qc68, qc60, qc71, qc60, qc74, qc60, qc77, qc60, qc82, qc80, qc85, qc80, qc88, qc80, qc91, qc80, qc26, qc27]
def qc93 : qE := .inr (2, [.ref 59, .null, .int (iI 0)])
def qh129 : qH := [qc58, qc78, qc92, qc10, qc7, qc9, qc21, qc13, qc15, qc17, qc17, qc17, qc17, qc24, qc9, qc29, qc27, qc17, qc31, qc35, qc34, qc9, qc42, qc48, qc40, qc40, qc43, qc9, qc45, qc9, qc47, qc9, qc54, qc51, qc9, qc53, qc13, qc15, qc62, qc60, qc65, qc60, qc68, qc60, qc71, qc60, qc74, qc60, qc77, qc60, qc82, qc80, qc85, qc80, qc88, qc80, qc91, qc80, qc93, qc27]
def qh130 : qH := [qc58, qc78, qc92, qc10, qc7, qc9, qc21, qc13, qc15, qc17, qc17, qc17, qc17, qc24, qc9, qc29, qc27, qc17, qc31, qc35, qc34, qc9, qc42, qc48, qc40, qc40, qc43, qc9, qc45, qc9, qc47, qc9, qc54, qc51, qc9, qc53, qc13, qc15, qc62, qc60, qc65, qc60, qc68, qc60, qc71, qc60, qc74, qc60, qc77, qc60, qc82, qc80, qc85, qc80, qc88, qc80, qc91, qc80, qc93, qc27, qc17]
def qc94 : qE := .inr (2, [.ref 59, .ref 60, .int (iI 0)])
def qh131 : qH := [qc58, qc78, qc92, qc10, qc7, qc9, qc21, qc13, qc15, qc17, qc17, qc17, qc17, qc24, qc9, qc29, qc27, qc17, qc31, qc35, qc34, qc9, qc42, qc48, qc40, qc40, qc43, qc9, qc45, qc9, qc47, qc9, qc54, qc51, qc9, qc53, qc13, qc15, qc62, qc60, qc65, qc60, qc68, qc60, qc71, qc60, qc74, qc60, qc77, qc60, qc82, qc80, qc85, qc80, qc88, qc80, qc91, qc80, qc94, qc27, qc17]
set_option maxRecDepth 40000 in
theorem ct_X2_init_58 {l : Launch} {G : qG} : qM l G 1 yX2_init cX2_init 1 none [.ref 58] qh127 (some (none, qh131)) := by
  refine qM_of (L := [some (.ref 58)]) (by decide +kernel) (Nat.le_of_ble_eq_true rfl) rfl ?_
  refine J_aload_n (pc := 0) dX2_init_0 rfl rfl rfl ?_
  refine J_objInit (pc := 1) (by decide) lm_X2_3 (Nat.le_of_ble_eq_true rfl) dX2_init_1 ?_
  refine J_aload_n (pc := 4) dX2_init_4 rfl rfl rfl ?_
  refine J_sipush (pc := 5) dX2_init_5 (by decide) (by decide) ?_
  refine J_newarray (pc := 8) (t := 0) (N := 976) (ty := .int) (by decide) rfl ac_int (fun _ => rfl) rfl (fun _ _ h => h) dX2_init_8 (by decide +kernel) (by decide) ?_
  show qJ _ _ _ _ _ _ _ _ _ _ qh128 _
  refine J_putfinal (pc := 10) (ci := 2) (k := 0) rfl inX2 (by decide) lf_X2_9 tyX2 tyX2_ok nmX2 rfl rfl rfl dX2_init_10 rfl (by decide) rfl rfl ?_
  show qJ _ _ _ _ _ _ _ _ _ _ qh129 _
  refine J_aload_n (pc := 13) dX2_init_13 rfl rfl rfl ?_
  refine J_iconst (pc := 14) dX2_init_14 ?_
  refine J_newarray (pc := 15) (t := 0) (N := 4) (ty := .int) (by decide) rfl ac_int (fun _ => rfl) rfl (fun _ _ h => h) dX2_init_15 (by decide +kernel) (by decide) ?_
  show qJ _ _ _ _ _ _ _ _ _ _ qh130 _
  refine J_putfinal (pc := 17) (ci := 2) (k := 1) rfl inX2 (by decide) lf_X2_15 tyX2 tyX2_ok nmX2 rfl rfl rfl dX2_init_17 rfl (by decide) rfl rfl ?_
  show qJ _ _ _ _ _ _ _ _ _ _ qh131 _
  refine J_aload_n (pc := 20) dX2_init_20 rfl rfl rfl ?_
  refine J_iconst (pc := 21) dX2_init_21 ?_
  refine J_putfield (pc := 22) (ci := 2) (k := 2) rfl inX2 (by decide) lf_X2_18 tyX2 tyX2_ok nmX2 rfl dX2_init_22 rfl (by decide) rfl rfl ?_
  show qJ _ _ _ _ _ _ _ _ _ _ qh131 _
  exact J_ret (pc := 25) (r := none) dX2_init_25 (Or.inr (Or.inr ⟨rfl, rfl, rfl⟩)) rfl
def qc95 : qE := .inl (4, 3, .inr (.inr (.inr (.inr (va_up (fun _ => none) 0 (some 58))))))
def qh132 : qH := [qc58, qc78, qc92, qc10, qc7, qc9, qc21, qc13, qc15, qc17, qc17, qc17, qc17, qc24, qc9, qc29, qc27, qc17, qc95, qc35, qc34, qc9, qc42, qc48, qc40, qc40, qc43, qc9, qc45, qc9, qc47, qc9, qc54, qc51, qc9, qc53, qc13, qc15, qc62, qc60, qc65, qc60, qc68, qc60, qc71, qc60, qc74, qc60, qc77, qc60, qc82, qc80, qc85, qc80, qc88, qc80, qc91, qc80, qc94, qc27, qc17]
def qc96 : qE := .inr (2, [.ref 59, .ref 60, .int (iI (-1))])
def qh133 : qH := [qc58, qc78, qc92, qc10, qc7, qc9, qc21, qc13, qc15, qc17, qc17, qc17, qc17, qc24, qc9, qc29, qc27, qc17, qc95, qc35, qc34, qc9, qc42, qc48, qc40, qc40, qc43, qc9, qc45, qc9, qc47, qc9, qc54, qc51, qc9, qc53, qc13, qc15, qc62, qc60, qc65, qc60, qc68, qc60, qc71, qc60, qc74, qc60, qc77, qc60, qc82, qc80, qc85, qc80, qc88, qc80, qc91, qc80, qc96, qc27, qc17]
def qh134 : qH := [qc58, qc78, qc92, qc10, qc7, qc9, qc21, qc13, qc15, qc17, qc17, qc17, qc17, qc24, qc9, qc29, qc27, qc17, qc95, qc35, qc34, qc9, qc42, qc48, qc40, qc40, qc43, qc9, qc45, qc9, qc47, qc9, qc54, qc51, qc9, qc53, qc13, qc15, qc62, qc60, qc65, qc60, qc68, qc60, qc71, qc60, qc74, qc60, qc77, qc60, qc82, qc80, qc85, qc80, qc88, qc80, qc91, qc80, qc96, qc27, qc17, qc26]
def qh135 : qH := [qc58, qc78, qc92, qc10, qc7, qc9, qc21, qc13, qc15, qc17, qc17, qc17, qc17, qc24, qc9, qc29, qc27, qc17, qc95, qc35, qc34, qc9, qc42, qc48, qc40, qc40, qc43, qc9, qc45, qc9, qc47, qc9, qc54, qc51, qc9, qc53, qc13, qc15, qc62, qc60, qc65, qc60, qc68, qc60, qc71, qc60, qc74, qc60, qc77, qc60, qc82, qc80, qc85, qc80, qc88, qc80, qc91, qc80, qc96, qc27, qc17, qc26, qc27]
def qc97 : qE := .inr (2, [.ref 62, .null, .int (iI 0)])
def qh136 : qH := [qc58, qc78, qc92, qc10, qc7, qc9, qc21, qc13, qc15, qc17, qc17, qc17, qc17, qc24, qc9, qc29, qc27, qc17, qc95, qc35, qc34, qc9, qc42, qc48, qc40, qc40, qc43, qc9, qc45, qc9, qc47, qc9, qc54, qc51, qc9, qc53, qc13, qc15, qc62, qc60, qc65, qc60, qc68, qc60, qc71, qc60, qc74, qc60, qc77, qc60, qc82, qc80, qc85, qc80, qc88, qc80, qc91, qc80, qc96, qc27, qc17, qc97, qc27]
def qh137 : qH := [qc58, qc78, qc92, qc10, qc7, qc9, qc21, qc13, qc15, qc17, qc17, qc17, qc17, qc24, qc9, qc29, qc27, qc17, qc95, qc35, qc34, qc9, qc42, qc48, qc40, qc40, qc43, qc9, qc45, qc9, qc47, qc9, qc54, qc51, qc9, qc53, qc13, qc15, qc62, qc60, qc65, qc60, qc68, qc60, qc71, qc60, qc74, qc60, qc77, qc60, qc82, qc80, qc85, qc80, qc88, qc80, qc91, qc80, qc96, qc27, qc17, qc97, qc27, qc17]
def qc98 : qE := .inr (2, [.ref 62, .ref 63, .int (iI 0)])
def qh138 : qH := [qc58, qc78, qc92, qc10, qc7, qc9, qc21, qc13, qc15, qc17, qc17, qc17, qc17, qc24, qc9, qc29, qc27, qc17, qc95, qc35, qc34, qc9, qc42, qc48, qc40, qc40, qc43, qc9, qc45, qc9, qc47, qc9, qc54, qc51, qc9, qc53, qc13, qc15, qc62, qc60, qc65, qc60, qc68, qc60, qc71, qc60, qc74, qc60, qc77, qc60, qc82, qc80, qc85, qc80, qc88, qc80, qc91, qc80, qc96, qc27, qc17, qc98, qc27, qc17]
set_option maxRecDepth 40000 in
theorem ct_X2_init_61 {l : Launch} {G : qG} : qM l G 1 yX2_init cX2_init 1 none [.ref 61] qh134 (some (none, qh138)) := by
  refine qM_of (L := [some (.ref 61)]) (by decide +kernel) (Nat.le_of_ble_eq_true rfl) rfl ?_
  refine J_aload_n (pc := 0) dX2_init_0 rfl rfl rfl ?_
  refine J_objInit (pc := 1) (by decide) lm_X2_3 (Nat.le_of_ble_eq_true rfl) dX2_init_1 ?_
  refine J_aload_n (pc := 4) dX2_init_4 rfl rfl rfl ?_
  refine J_sipush (pc := 5) dX2_init_5 (by decide) (by decide) ?_
  refine J_newarray (pc := 8) (t := 0) (N := 976) (ty := .int) (by decide) rfl ac_int (fun _ => rfl) rfl (fun _ _ h => h) dX2_init_8 (by decide +kernel) (by decide) ?_
  show qJ _ _ _ _ _ _ _ _ _ _ qh135 _
  refine J_putfinal (pc := 10) (ci := 2) (k := 0) rfl inX2 (by decide) lf_X2_9 tyX2 tyX2_ok nmX2 rfl rfl rfl dX2_init_10 rfl (by decide) rfl rfl ?_
  show qJ _ _ _ _ _ _ _ _ _ _ qh136 _
  refine J_aload_n (pc := 13) dX2_init_13 rfl rfl rfl ?_
  refine J_iconst (pc := 14) dX2_init_14 ?_
  refine J_newarray (pc := 15) (t := 0) (N := 4) (ty := .int) (by decide) rfl ac_int (fun _ => rfl) rfl (fun _ _ h => h) dX2_init_15 (by decide +kernel) (by decide) ?_
  show qJ _ _ _ _ _ _ _ _ _ _ qh137 _
  refine J_putfinal (pc := 17) (ci := 2) (k := 1) rfl inX2 (by decide) lf_X2_15 tyX2 tyX2_ok nmX2 rfl rfl rfl dX2_init_17 rfl (by decide) rfl rfl ?_
  show qJ _ _ _ _ _ _ _ _ _ _ qh138 _
  refine J_aload_n (pc := 20) dX2_init_20 rfl rfl rfl ?_
  refine J_iconst (pc := 21) dX2_init_21 ?_
  refine J_putfield (pc := 22) (ci := 2) (k := 2) rfl inX2 (by decide) lf_X2_18 tyX2 tyX2_ok nmX2 rfl dX2_init_22 rfl (by decide) rfl rfl ?_
  show qJ _ _ _ _ _ _ _ _ _ _ qh138 _
  exact J_ret (pc := 25) (r := none) dX2_init_25 (Or.inr (Or.inr ⟨rfl, rfl, rfl⟩)) rfl
def qc99 : qE := .inl (4, 3, .inr (.inr (.inr (.inr (va_up (va_up (fun _ => none) 0 (some 58)) 1 (some 61))))))
def qh139 : qH := [qc58, qc78, qc92, qc10, qc7, qc9, qc21, qc13, qc15, qc17, qc17, qc17, qc17, qc24, qc9, qc29, qc27, qc17, qc99, qc35, qc34, qc9, qc42, qc48, qc40, qc40, qc43, qc9, qc45, qc9, qc47, qc9, qc54, qc51, qc9, qc53, qc13, qc15, qc62, qc60, qc65, qc60, qc68, qc60, qc71, qc60, qc74, qc60, qc77, qc60, qc82, qc80, qc85, qc80, qc88, qc80, qc91, qc80, qc96, qc27, qc17, qc98, qc27, qc17]
def qc100 : qE := .inr (2, [.ref 62, .ref 63, .int (iI (-1))])
def qh140 : qH := [qc58, qc78, qc92, qc10, qc7, qc9, qc21, qc13, qc15, qc17, qc17, qc17, qc17, qc24, qc9, qc29, qc27, qc17, qc99, qc35, qc34, qc9, qc42, qc48, qc40, qc40, qc43, qc9, qc45, qc9, qc47, qc9, qc54, qc51, qc9, qc53, qc13, qc15, qc62, qc60, qc65, qc60, qc68, qc60, qc71, qc60, qc74, qc60, qc77, qc60, qc82, qc80, qc85, qc80, qc88, qc80, qc91, qc80, qc96, qc27, qc17, qc100, qc27, qc17]
def qh141 : qH := [qc58, qc78, qc92, qc10, qc7, qc9, qc21, qc13, qc15, qc17, qc17, qc17, qc17, qc24, qc9, qc29, qc27, qc17, qc99, qc35, qc34, qc9, qc42, qc48, qc40, qc40, qc43, qc9, qc45, qc9, qc47, qc9, qc54, qc51, qc9, qc53, qc13, qc15, qc62, qc60, qc65, qc60, qc68, qc60, qc71, qc60, qc74, qc60, qc77, qc60, qc82, qc80, qc85, qc80, qc88, qc80, qc91, qc80, qc96, qc27, qc17, qc100, qc27, qc17, qc26]
def qh142 : qH := [qc58, qc78, qc92, qc10, qc7, qc9, qc21, qc13, qc15, qc17, qc17, qc17, qc17, qc24, qc9, qc29, qc27, qc17, qc99, qc35, qc34, qc9, qc42, qc48, qc40, qc40, qc43, qc9, qc45, qc9, qc47, qc9, qc54, qc51, qc9, qc53, qc13, qc15, qc62, qc60, qc65, qc60, qc68, qc60, qc71, qc60, qc74, qc60, qc77, qc60, qc82, qc80, qc85, qc80, qc88, qc80, qc91, qc80, qc96, qc27, qc17, qc100, qc27, qc17, qc26, qc27]
def qc101 : qE := .inr (2, [.ref 65, .null, .int (iI 0)])
def qh143 : qH := [qc58, qc78, qc92, qc10, qc7, qc9, qc21, qc13, qc15, qc17, qc17, qc17, qc17, qc24, qc9, qc29, qc27, qc17, qc99, qc35, qc34, qc9, qc42, qc48, qc40, qc40, qc43, qc9, qc45, qc9, qc47, qc9, qc54, qc51, qc9, qc53, qc13, qc15, qc62, qc60, qc65, qc60, qc68, qc60, qc71, qc60, qc74, qc60, qc77, qc60, qc82, qc80, qc85, qc80, qc88, qc80, qc91, qc80, qc96, qc27, qc17, qc100, qc27, qc17, qc101, qc27]
def qh144 : qH := [qc58, qc78, qc92, qc10, qc7, qc9, qc21, qc13, qc15, qc17, qc17, qc17, qc17, qc24, qc9, qc29, qc27, qc17, qc99, qc35, qc34, qc9, qc42, qc48, qc40, qc40, qc43, qc9, qc45, qc9, qc47, qc9, qc54, qc51, qc9, qc53, qc13, qc15, qc62, qc60, qc65, qc60, qc68, qc60, qc71, qc60, qc74, qc60, qc77, qc60, qc82, qc80, qc85, qc80, qc88, qc80, qc91, qc80, qc96, qc27, qc17, qc100, qc27, qc17, qc101, qc27, qc17]
def qc102 : qE := .inr (2, [.ref 65, .ref 66, .int (iI 0)])
def qh145 : qH := [qc58, qc78, qc92, qc10, qc7, qc9, qc21, qc13, qc15, qc17, qc17, qc17, qc17, qc24, qc9, qc29, qc27, qc17, qc99, qc35, qc34, qc9, qc42, qc48, qc40, qc40, qc43, qc9, qc45, qc9, qc47, qc9, qc54, qc51, qc9, qc53, qc13, qc15, qc62, qc60, qc65, qc60, qc68, qc60, qc71, qc60, qc74, qc60, qc77, qc60, qc82, qc80, qc85, qc80, qc88, qc80, qc91, qc80, qc96, qc27, qc17, qc100, qc27, qc17, qc102, qc27, qc17]
set_option maxRecDepth 40000 in
theorem ct_X2_init_64 {l : Launch} {G : qG} : qM l G 1 yX2_init cX2_init 1 none [.ref 64] qh141 (some (none, qh145)) := by
  refine qM_of (L := [some (.ref 64)]) (by decide +kernel) (Nat.le_of_ble_eq_true rfl) rfl ?_
  refine J_aload_n (pc := 0) dX2_init_0 rfl rfl rfl ?_
  refine J_objInit (pc := 1) (by decide) lm_X2_3 (Nat.le_of_ble_eq_true rfl) dX2_init_1 ?_
  refine J_aload_n (pc := 4) dX2_init_4 rfl rfl rfl ?_
  refine J_sipush (pc := 5) dX2_init_5 (by decide) (by decide) ?_
  refine J_newarray (pc := 8) (t := 0) (N := 976) (ty := .int) (by decide) rfl ac_int (fun _ => rfl) rfl (fun _ _ h => h) dX2_init_8 (by decide +kernel) (by decide) ?_
  show qJ _ _ _ _ _ _ _ _ _ _ qh142 _
  refine J_putfinal (pc := 10) (ci := 2) (k := 0) rfl inX2 (by decide) lf_X2_9 tyX2 tyX2_ok nmX2 rfl rfl rfl dX2_init_10 rfl (by decide) rfl rfl ?_
  show qJ _ _ _ _ _ _ _ _ _ _ qh143 _
  refine J_aload_n (pc := 13) dX2_init_13 rfl rfl rfl ?_
  refine J_iconst (pc := 14) dX2_init_14 ?_
  refine J_newarray (pc := 15) (t := 0) (N := 4) (ty := .int) (by decide) rfl ac_int (fun _ => rfl) rfl (fun _ _ h => h) dX2_init_15 (by decide +kernel) (by decide) ?_
  show qJ _ _ _ _ _ _ _ _ _ _ qh144 _
  refine J_putfinal (pc := 17) (ci := 2) (k := 1) rfl inX2 (by decide) lf_X2_15 tyX2 tyX2_ok nmX2 rfl rfl rfl dX2_init_17 rfl (by decide) rfl rfl ?_
  show qJ _ _ _ _ _ _ _ _ _ _ qh145 _
  refine J_aload_n (pc := 20) dX2_init_20 rfl rfl rfl ?_
  refine J_iconst (pc := 21) dX2_init_21 ?_
  refine J_putfield (pc := 22) (ci := 2) (k := 2) rfl inX2 (by decide) lf_X2_18 tyX2 tyX2_ok nmX2 rfl dX2_init_22 rfl (by decide) rfl rfl ?_
  show qJ _ _ _ _ _ _ _ _ _ _ qh145 _
  exact J_ret (pc := 25) (r := none) dX2_init_25 (Or.inr (Or.inr ⟨rfl, rfl, rfl⟩)) rfl
def qc103 : qE := .inl (4, 3, .inr (.inr (.inr (.inr (va_up (va_up (va_up (fun _ => none) 0 (some 58)) 1 (some 61)) 2 (some 64))))))
def qh146 : qH := [qc58, qc78, qc92, qc10, qc7, qc9, qc21, qc13, qc15, qc17, qc17, qc17, qc17, qc24, qc9, qc29, qc27, qc17, qc103, qc35, qc34, qc9, qc42, qc48, qc40, qc40, qc43, qc9, qc45, qc9, qc47, qc9, qc54, qc51, qc9, qc53, qc13, qc15, qc62, qc60, qc65, qc60, qc68, qc60, qc71, qc60, qc74, qc60, qc77, qc60, qc82, qc80, qc85, qc80, qc88, qc80, qc91, qc80, qc96, qc27, qc17, qc100, qc27, qc17, qc102, qc27, qc17]
def qc104 : qE := .inr (2, [.ref 65, .ref 66, .int (iI (-1))])
def qh147 : qH := [qc58, qc78, qc92, qc10, qc7, qc9, qc21, qc13, qc15, qc17, qc17, qc17, qc17, qc24, qc9, qc29, qc27, qc17, qc103, qc35, qc34, qc9, qc42, qc48, qc40, qc40, qc43, qc9, qc45, qc9, qc47, qc9, qc54, qc51, qc9, qc53, qc13, qc15, qc62, qc60, qc65, qc60, qc68, qc60, qc71, qc60, qc74, qc60, qc77, qc60, qc82, qc80, qc85, qc80, qc88, qc80, qc91, qc80, qc96, qc27, qc17, qc100, qc27, qc17, qc104, qc27, qc17]
set_option maxRecDepth 40000 in
theorem ct_X9_init_0 {l : Launch} {G : qG} : qM l G 3 yX9_init cX9_init 2 none [.ref 0] qh1 (some (none, qh147)) := by
  refine qM_of (L := [some (.ref 0), none]) (by decide +kernel) (Nat.le_of_ble_eq_true rfl) rfl ?_
  refine J_aload_n (pc := 0) dX9_init_0 rfl rfl rfl ?_
  refine J_objInit (pc := 1) (by decide) lm_X9_1 (Nat.le_of_ble_eq_true rfl) dX9_init_1 ?_
  refine J_aload_n (pc := 4) dX9_init_4 rfl rfl rfl ?_
  refine J_bipush (pc := 5) dX9_init_5 (by decide) (by decide) ?_
  refine J_anewarray (pc := 7) (t := 2) (N := 6) (C := RX5) (by decide) (by simp [qnw, RX5]) (fun _ => rfl) lc_X9_9 dX9_init_7 (by decide +kernel) (by decide) ?_
  show qJ _ _ _ _ _ _ _ _ _ _ qh2 _
  refine J_putfinal (pc := 10) (ci := 9) (k := 0) rfl inX9 (by decide) lf_X9_11 tyX9 tyX9_ok nmX9 rfl rfl rfl dX9_init_10 rfl (by decide) rfl rfl ?_
  show qJ _ _ _ _ _ _ _ _ _ _ qh3 _
  refine J_aload_n (pc := 13) dX9_init_13 rfl rfl rfl ?_
  refine J_iconst (pc := 14) dX9_init_14 ?_
  refine J_anewarray (pc := 15) (t := 3) (N := 4) (C := RX7) (by decide) (by simp [qnw, RX7]) (fun _ => rfl) lc_X9_15 dX9_init_15 (by decide +kernel) (by decide) ?_
  show qJ _ _ _ _ _ _ _ _ _ _ qh4 _
  refine J_putfinal (pc := 18) (ci := 9) (k := 1) rfl inX9 (by decide) lf_X9_17 tyX9 tyX9_ok nmX9 rfl rfl rfl dX9_init_18 rfl (by decide) rfl rfl ?_
  show qJ _ _ _ _ _ _ _ _ _ _ qh5 _
  refine J_aload_n (pc := 21) dX9_init_21 rfl rfl rfl ?_
  refine J_new (pc := 22) (ci := 4) (fs := [.null, .null, .int (iI 0), .int (iI 0)]) rfl inX4 tyX4 tyX4_ok ik_X4 ini_X4 (by decide +kernel) rfl (fun _ => rfl) (by decide) lc_X9_21 dX9_init_22 ?_
  show qJ _ _ _ _ _ _ _ _ _ _ qh6 _
  refine J_dup (pc := 25) dX9_init_25 rfl ?_
  refine J_callI (pc := 26) (d' := 1) (st := [.ref 3, .ref 0]) im_yX4_init ini_X4 cd_yX4_init (by decide) rfl (by decide +kernel) (Or.inr (by simp [qnw, yX9_init, RX9])) dX9_init_26 (by decide) (Nat.le_of_ble_eq_true rfl) ct_X4_init_3 (fun h => by cases h) (fun r A1 h => ?_)
  cases h
  show qJ _ _ _ _ _ _ _ _ _ [.ref 3, .ref 0] qh10 _
  refine J_putfinal (pc := 29) (ci := 9) (k := 2) rfl inX9 (by decide) lf_X9_24 tyX9 tyX9_ok nmX9 rfl rfl rfl dX9_init_29 rfl (by decide) rfl rfl ?_
  show qJ _ _ _ _ _ _ _ _ _ _ qh11 _
  refine J_aload_n (pc := 32) dX9_init_32 rfl rfl rfl ?_
  refine J_new (pc := 33) (ci := 8) (fs := [.null, .null, .null, .null, .null, .null, .int (iI 0), .int (iI 0)]) rfl inX8 tyX8 tyX8_ok ik_X8 ini_X8 (by decide +kernel) rfl (fun _ => rfl) (by decide) lc_X9_28 dX9_init_33 ?_
  show qJ _ _ _ _ _ _ _ _ _ _ qh12 _
  refine J_dup (pc := 36) dX9_init_36 rfl ?_
  refine J_callI (pc := 37) (d' := 1) (st := [.ref 6, .ref 0]) im_yX8_init ini_X8 cd_yX8_init (by decide) rfl (by decide +kernel) (Or.inr (by simp [qnw, yX9_init, RX9])) dX9_init_37 (by decide) (Nat.le_of_ble_eq_true rfl) ct_X8_init_6 (fun h => by cases h) (fun r A1 h => ?_)
  cases h
  show qJ _ _ _ _ _ _ _ _ _ [.ref 6, .ref 0] qh24 _
  refine J_putfinal (pc := 40) (ci := 9) (k := 3) rfl inX9 (by decide) lf_X9_31 tyX9 tyX9_ok nmX9 rfl rfl rfl dX9_init_40 rfl (by decide) rfl rfl ?_
  show qJ _ _ _ _ _ _ _ _ _ _ qh25 _
  refine J_aload_n (pc := 43) dX9_init_43 rfl rfl rfl ?_
  refine J_new (pc := 44) (ci := 1) (fs := [.null, .int (iI 0), .int (iI 0), .int (iI 0), .int (iI 0)]) rfl inX1 tyX1 tyX1_ok ik_X1 ini_X1 (by decide +kernel) rfl (fun _ => rfl) (by decide) lc_X9_35 dX9_init_44 ?_
  show qJ _ _ _ _ _ _ _ _ _ _ qh26 _
  refine J_dup (pc := 47) dX9_init_47 rfl ?_
  refine J_callI (pc := 48) (d' := 1) (st := [.ref 13, .ref 0]) im_yX1_init ini_X1 cd_yX1_init (by decide) rfl (by decide +kernel) (Or.inr (by simp [qnw, yX9_init, RX9])) dX9_init_48 (by decide) (Nat.le_of_ble_eq_true rfl) ct_X1_init_13 (fun h => by cases h) (fun r A1 h => ?_)
  cases h
  show qJ _ _ _ _ _ _ _ _ _ [.ref 13, .ref 0] qh28 _
  refine J_putfinal (pc := 51) (ci := 9) (k := 4) rfl inX9 (by decide) lf_X9_38 tyX9 tyX9_ok nmX9 rfl rfl rfl dX9_init_51 rfl (by decide) rfl rfl ?_
  show qJ _ _ _ _ _ _ _ _ _ _ qh29 _
  refine J_aload_n (pc := 54) dX9_init_54 rfl rfl rfl ?_
  refine J_new (pc := 55) (ci := 2) (fs := [.null, .null, .int (iI 0)]) rfl inX2 tyX2 tyX2_ok ik_X2 ini_X2 (by decide +kernel) rfl (fun _ => rfl) (by decide) lc_X9_42 dX9_init_55 ?_
  show qJ _ _ _ _ _ _ _ _ _ _ qh30 _
  refine J_dup (pc := 58) dX9_init_58 rfl ?_
  refine J_callI (pc := 59) (d' := 1) (st := [.ref 15, .ref 0]) im_yX2_init ini_X2 cd_yX2_init (by decide) rfl (by decide +kernel) (Or.inr (by simp [qnw, yX9_init, RX9])) dX9_init_59 (by decide) (Nat.le_of_ble_eq_true rfl) ct_X2_init_15 (fun h => by cases h) (fun r A1 h => ?_)
  cases h
  show qJ _ _ _ _ _ _ _ _ _ [.ref 15, .ref 0] qh34 _
  refine J_putfinal (pc := 62) (ci := 9) (k := 5) rfl inX9 (by decide) lf_X9_45 tyX9 tyX9_ok nmX9 rfl rfl rfl dX9_init_62 rfl (by decide) rfl rfl ?_
  show qJ _ _ _ _ _ _ _ _ _ _ qh35 _
  refine J_aload_n (pc := 65) dX9_init_65 rfl rfl rfl ?_
  refine J_iconst (pc := 66) dX9_init_66 ?_
  refine J_anewarray (pc := 67) (t := 4) (N := 3) (C := RX2) (by decide) (by simp [qnw, RX2]) (fun _ => rfl) lc_X9_42 dX9_init_67 (by decide +kernel) (by decide) ?_
  show qJ _ _ _ _ _ _ _ _ _ _ qh36 _
  refine J_putfinal (pc := 70) (ci := 9) (k := 6) rfl inX9 (by decide) lf_X9_49 tyX9 tyX9_ok nmX9 rfl rfl rfl dX9_init_70 rfl (by decide) rfl rfl ?_
  show qJ _ _ _ _ _ _ _ _ _ _ qh37 _
  refine J_aload_n (pc := 73) dX9_init_73 rfl rfl rfl ?_
  refine J_new (pc := 74) (ci := 3) (fs := [.null, .int (iI 0)]) rfl inX3 tyX3 tyX3_ok ik_X3 ini_X3 (by decide +kernel) rfl (fun _ => rfl) (by decide) lc_X9_53 dX9_init_74 ?_
  show qJ _ _ _ _ _ _ _ _ _ _ qh38 _
  refine J_dup (pc := 77) dX9_init_77 rfl ?_
  refine J_callI (pc := 78) (d' := 2) (st := [.ref 19, .ref 0]) im_yX3_init ini_X3 cd_yX3_init (by decide) rfl (by decide +kernel) (Or.inr (by simp [qnw, yX9_init, RX9])) dX9_init_78 (by decide) (Nat.le_of_ble_eq_true rfl) ct_X3_init_19 (fun h => by cases h) (fun r A1 h => ?_)
  cases h
  show qJ _ _ _ _ _ _ _ _ _ [.ref 19, .ref 0] qh42 _
  refine J_putfinal (pc := 81) (ci := 9) (k := 7) rfl inX9 (by decide) lf_X9_56 tyX9 tyX9_ok nmX9 rfl rfl rfl dX9_init_81 rfl (by decide) rfl rfl ?_
  show qJ _ _ _ _ _ _ _ _ _ _ qh43 _
  refine J_aload_n (pc := 84) dX9_init_84 rfl rfl rfl ?_
  refine J_new (pc := 85) (ci := 6) (fs := [.null, .null, .null, .int (iI 0), .int (iI 0), .int (iI 0), .int (iI 0), .int (iI 0)]) rfl inX6 tyX6 tyX6_ok ik_X6 ini_X6 (by decide +kernel) rfl (fun _ => rfl) (by decide) lc_X9_60 dX9_init_85 ?_
  show qJ _ _ _ _ _ _ _ _ _ _ qh44 _
  refine J_dup (pc := 88) dX9_init_88 rfl ?_
  refine J_callI (pc := 89) (d' := 2) (st := [.ref 22, .ref 0]) im_yX6_init ini_X6 cd_yX6_init (by decide) rfl (by decide +kernel) (Or.inl lm_X9_62) dX9_init_89 (by decide) (Nat.le_of_ble_eq_true rfl) ct_X6_init_22 (fun h => by cases h) (fun r A1 h => ?_)
  cases h
  show qJ _ _ _ _ _ _ _ _ _ [.ref 22, .ref 0] qh62 _
  refine J_putfinal (pc := 92) (ci := 9) (k := 8) rfl inX9 (by decide) lf_X9_63 tyX9 tyX9_ok nmX9 rfl rfl rfl dX9_init_92 rfl (by decide) rfl rfl ?_
  show qJ _ _ _ _ _ _ _ _ _ _ qh63 _
  refine J_aload_n (pc := 95) dX9_init_95 rfl rfl rfl ?_
  refine J_new (pc := 96) (ci := 0) (fs := [.null, .null]) rfl inX0 tyX0 tyX0_ok ik_X0 ini_X0 (by decide +kernel) rfl (fun _ => rfl) (by decide) lc_X9_67 dX9_init_96 ?_
  show qJ _ _ _ _ _ _ _ _ _ _ qh64 _
  refine J_dup (pc := 99) dX9_init_99 rfl ?_
  refine J_callI (pc := 100) (d' := 2) (st := [.ref 32, .ref 0]) im_yX0_init ini_X0 cd_yX0_init (by decide) rfl (by decide +kernel) (Or.inr (by simp [qnw, yX9_init, RX9])) dX9_init_100 (by decide) (Nat.le_of_ble_eq_true rfl) ct_X0_init_32 (fun h => by cases h) (fun r A1 h => ?_)
  cases h
  show qJ _ _ _ _ _ _ _ _ _ [.ref 32, .ref 0] qh70 _
  refine J_putfinal (pc := 103) (ci := 9) (k := 9) rfl inX9 (by decide) lf_X9_70 tyX9 tyX9_ok nmX9 rfl rfl rfl dX9_init_103 rfl (by decide) rfl rfl ?_
  show qJ _ _ _ _ _ _ _ _ _ _ qh71 _
  refine J_aload_n (pc := 106) dX9_init_106 rfl rfl rfl ?_
  refine J_iconst (pc := 107) dX9_init_107 ?_
  refine J_newarray (pc := 108) (t := 0) (N := 5) (ty := .int) (by decide) rfl ac_int (fun _ => rfl) rfl (fun _ _ h => h) dX9_init_108 (by decide +kernel) (by decide) ?_
  show qJ _ _ _ _ _ _ _ _ _ _ qh72 _
  refine J_putfinal (pc := 110) (ci := 9) (k := 10) rfl inX9 (by decide) lf_X9_74 tyX9 tyX9_ok nmX9 rfl rfl rfl dX9_init_110 rfl (by decide) rfl rfl ?_
  show qJ _ _ _ _ _ _ _ _ _ _ qh73 _
  refine J_aload_n (pc := 113) dX9_init_113 rfl rfl rfl ?_
  refine J_bipush (pc := 114) dX9_init_114 (by decide) (by decide) ?_
  refine J_newarray (pc := 116) (t := 0) (N := 6) (ty := .int) (by decide) rfl ac_int (fun _ => rfl) rfl (fun _ _ h => h) dX9_init_116 (by decide +kernel) (by decide) ?_
  show qJ _ _ _ _ _ _ _ _ _ _ qh74 _
  refine J_putfinal (pc := 118) (ci := 9) (k := 11) rfl inX9 (by decide) lf_X9_78 tyX9 tyX9_ok nmX9 rfl rfl rfl dX9_init_118 rfl (by decide) rfl rfl ?_
  show qJ _ _ _ _ _ _ _ _ _ _ qh75 _
  refine J_aload_n (pc := 121) dX9_init_121 rfl rfl rfl ?_
  refine J_iconst (pc := 122) dX9_init_122 ?_
  refine J_putfield (pc := 123) (ci := 9) (k := 12) rfl inX9 (by decide) lf_X9_81 tyX9 tyX9_ok nmX9 rfl dX9_init_123 rfl (by decide) rfl rfl ?_
  show qJ _ _ _ _ _ _ _ _ _ _ qh75 _
  refine J_aload_n (pc := 126) dX9_init_126 rfl rfl rfl ?_
  refine J_iconst (pc := 127) dX9_init_127 ?_
  refine J_putfield (pc := 128) (ci := 9) (k := 13) rfl inX9 (by decide) lf_X9_85 tyX9 tyX9_ok nmX9 rfl dX9_init_128 rfl (by decide) rfl rfl ?_
  show qJ _ _ _ _ _ _ _ _ _ _ qh75 _
  refine J_aload_n (pc := 131) dX9_init_131 rfl rfl rfl ?_
  refine J_lconst (pc := 132) (z := 0) dX9_init_132 (by decide) ?_
  refine J_putfield (pc := 133) (ci := 9) (k := 14) rfl inX9 (by decide) lf_X9_88 tyX9 tyX9_ok nmX9 rfl dX9_init_133 rfl (by decide) rfl rfl ?_
  show qJ _ _ _ _ _ _ _ _ _ _ qh75 _
  refine J_aload_n (pc := 136) dX9_init_136 rfl rfl rfl ?_
  refine J_lconst (pc := 137) (z := 1) dX9_init_137 (by decide) ?_
  refine J_putfield (pc := 138) (ci := 9) (k := 15) rfl inX9 (by decide) lf_X9_92 tyX9 tyX9_ok nmX9 rfl dX9_init_138 rfl (by decide) rfl rfl ?_
  show qJ _ _ _ _ _ _ _ _ _ _ qh76 _
  refine J_iconst (pc := 141) dX9_init_141 ?_
  refine J_istore_n (pc := 142) (L' := [some (.ref 0), some (.int (iI 0))]) dX9_init_142 rfl (by decide) rfl rfl ?_
  refine J_iload_n (pc := 143) dX9_init_143 rfl rfl ?_
  refine J_bipush (pc := 144) dX9_init_144 (by decide) (by decide) ?_
  refine J_ge_f (pc := 146) (tgt := 168) dX9_init_146 (by decide) (by decide +kernel) ?_
  refine J_aload_n (pc := 149) dX9_init_149 rfl rfl rfl ?_
  refine J_getfield (pc := 150) (ci := 9) (k := 0) rfl inX9 (by decide) lf_X9_11 dX9_init_150 rfl rfl ?_
  refine J_iload_n (pc := 153) dX9_init_153 rfl rfl ?_
  refine J_new (pc := 154) (ci := 5) (fs := [.null, .int (iI 0)]) rfl inX5 tyX5 tyX5_ok ik_X5 ini_X5 (by decide +kernel) rfl (fun _ => rfl) (by decide) lc_X9_9 dX9_init_154 ?_
  show qJ _ _ _ _ _ _ _ _ _ _ qh77 _
  refine J_dup (pc := 157) dX9_init_157 rfl ?_
  refine J_callI (pc := 158) (d' := 1) (st := [.ref 38, .int (iI 0), .ref 1]) im_yX5_init ini_X5 cd_yX5_init (by decide) rfl (by decide +kernel) (Or.inr (by simp [qnw, yX9_init, RX9])) dX9_init_158 (by decide) (Nat.le_of_ble_eq_true rfl) ct_X5_init_38 (fun h => by cases h) (fun r A1 h => ?_)
  cases h
  show qJ _ _ _ _ _ _ _ _ _ [.ref 38, .int (iI 0), .ref 1] qh80 _
  refine J_aastore' (pc := 161) (ci := 5) (q9 := 0) dX9_init_161 rfl rfl (fun _ => rfl) rfl (by decide +kernel) (by decide) ?_
  show qJ _ _ _ _ _ _ _ _ _ _ qh81 _
  refine J_iinc (pc := 162) (L' := [some (.ref 0), some (.int (iI 1))]) dX9_init_162 rfl (by decide) rfl rfl ?_
  refine J_goto (pc := 165) (tgt := 143) dX9_init_165 (by decide) ?_
  refine J_iload_n (pc := 143) dX9_init_143 rfl rfl ?_
  refine J_bipush (pc := 144) dX9_init_144 (by decide) (by decide) ?_
  refine J_ge_f (pc := 146) (tgt := 168) dX9_init_146 (by decide) (by decide +kernel) ?_
  refine J_aload_n (pc := 149) dX9_init_149 rfl rfl rfl ?_
  refine J_getfield (pc := 150) (ci := 9) (k := 0) rfl inX9 (by decide) lf_X9_11 dX9_init_150 rfl rfl ?_
  refine J_iload_n (pc := 153) dX9_init_153 rfl rfl ?_
  refine J_new (pc := 154) (ci := 5) (fs := [.null, .int (iI 0)]) rfl inX5 tyX5 tyX5_ok ik_X5 ini_X5 (by decide +kernel) rfl (fun _ => rfl) (by decide) lc_X9_9 dX9_init_154 ?_
  show qJ _ _ _ _ _ _ _ _ _ _ qh82 _
  refine J_dup (pc := 157) dX9_init_157 rfl ?_
  refine J_callI (pc := 158) (d' := 1) (st := [.ref 40, .int (iI 1), .ref 1]) im_yX5_init ini_X5 cd_yX5_init (by decide) rfl (by decide +kernel) (Or.inr (by simp [qnw, yX9_init, RX9])) dX9_init_158 (by decide) (Nat.le_of_ble_eq_true rfl) ct_X5_init_40 (fun h => by cases h) (fun r A1 h => ?_)
  cases h
  show qJ _ _ _ _ _ _ _ _ _ [.ref 40, .int (iI 1), .ref 1] qh85 _
  refine J_aastore' (pc := 161) (ci := 5) (q9 := 1) dX9_init_161 rfl rfl (fun _ => rfl) rfl (by decide +kernel) (by decide) ?_
  show qJ _ _ _ _ _ _ _ _ _ _ qh86 _
  refine J_iinc (pc := 162) (L' := [some (.ref 0), some (.int (iI 2))]) dX9_init_162 rfl (by decide) rfl rfl ?_
  refine J_goto (pc := 165) (tgt := 143) dX9_init_165 (by decide) ?_
  refine J_iload_n (pc := 143) dX9_init_143 rfl rfl ?_
  refine J_bipush (pc := 144) dX9_init_144 (by decide) (by decide) ?_
  refine J_ge_f (pc := 146) (tgt := 168) dX9_init_146 (by decide) (by decide +kernel) ?_
  refine J_aload_n (pc := 149) dX9_init_149 rfl rfl rfl ?_
  refine J_getfield (pc := 150) (ci := 9) (k := 0) rfl inX9 (by decide) lf_X9_11 dX9_init_150 rfl rfl ?_
  refine J_iload_n (pc := 153) dX9_init_153 rfl rfl ?_
  refine J_new (pc := 154) (ci := 5) (fs := [.null, .int (iI 0)]) rfl inX5 tyX5 tyX5_ok ik_X5 ini_X5 (by decide +kernel) rfl (fun _ => rfl) (by decide) lc_X9_9 dX9_init_154 ?_
  show qJ _ _ _ _ _ _ _ _ _ _ qh87 _
  refine J_dup (pc := 157) dX9_init_157 rfl ?_
  refine J_callI (pc := 158) (d' := 1) (st := [.ref 42, .int (iI 2), .ref 1]) im_yX5_init ini_X5 cd_yX5_init (by decide) rfl (by decide +kernel) (Or.inr (by simp [qnw, yX9_init, RX9])) dX9_init_158 (by decide) (Nat.le_of_ble_eq_true rfl) ct_X5_init_42 (fun h => by cases h) (fun r A1 h => ?_)
  cases h
  show qJ _ _ _ _ _ _ _ _ _ [.ref 42, .int (iI 2), .ref 1] qh90 _
  refine J_aastore' (pc := 161) (ci := 5) (q9 := 2) dX9_init_161 rfl rfl (fun _ => rfl) rfl (by decide +kernel) (by decide) ?_
  show qJ _ _ _ _ _ _ _ _ _ _ qh91 _
  refine J_iinc (pc := 162) (L' := [some (.ref 0), some (.int (iI 3))]) dX9_init_162 rfl (by decide) rfl rfl ?_
  refine J_goto (pc := 165) (tgt := 143) dX9_init_165 (by decide) ?_
  refine J_iload_n (pc := 143) dX9_init_143 rfl rfl ?_
  refine J_bipush (pc := 144) dX9_init_144 (by decide) (by decide) ?_
  refine J_ge_f (pc := 146) (tgt := 168) dX9_init_146 (by decide) (by decide +kernel) ?_
  refine J_aload_n (pc := 149) dX9_init_149 rfl rfl rfl ?_
  refine J_getfield (pc := 150) (ci := 9) (k := 0) rfl inX9 (by decide) lf_X9_11 dX9_init_150 rfl rfl ?_
  refine J_iload_n (pc := 153) dX9_init_153 rfl rfl ?_
  refine J_new (pc := 154) (ci := 5) (fs := [.null, .int (iI 0)]) rfl inX5 tyX5 tyX5_ok ik_X5 ini_X5 (by decide +kernel) rfl (fun _ => rfl) (by decide) lc_X9_9 dX9_init_154 ?_
  show qJ _ _ _ _ _ _ _ _ _ _ qh92 _
  refine J_dup (pc := 157) dX9_init_157 rfl ?_
  refine J_callI (pc := 158) (d' := 1) (st := [.ref 44, .int (iI 3), .ref 1]) im_yX5_init ini_X5 cd_yX5_init (by decide) rfl (by decide +kernel) (Or.inr (by simp [qnw, yX9_init, RX9])) dX9_init_158 (by decide) (Nat.le_of_ble_eq_true rfl) ct_X5_init_44 (fun h => by cases h) (fun r A1 h => ?_)
  cases h
  show qJ _ _ _ _ _ _ _ _ _ [.ref 44, .int (iI 3), .ref 1] qh95 _
  refine J_aastore' (pc := 161) (ci := 5) (q9 := 3) dX9_init_161 rfl rfl (fun _ => rfl) rfl (by decide +kernel) (by decide) ?_
  show qJ _ _ _ _ _ _ _ _ _ _ qh96 _
  refine J_iinc (pc := 162) (L' := [some (.ref 0), some (.int (iI 4))]) dX9_init_162 rfl (by decide) rfl rfl ?_
  refine J_goto (pc := 165) (tgt := 143) dX9_init_165 (by decide) ?_
  refine J_iload_n (pc := 143) dX9_init_143 rfl rfl ?_
  refine J_bipush (pc := 144) dX9_init_144 (by decide) (by decide) ?_
  refine J_ge_f (pc := 146) (tgt := 168) dX9_init_146 (by decide) (by decide +kernel) ?_
  refine J_aload_n (pc := 149) dX9_init_149 rfl rfl rfl ?_
  refine J_getfield (pc := 150) (ci := 9) (k := 0) rfl inX9 (by decide) lf_X9_11 dX9_init_150 rfl rfl ?_
  refine J_iload_n (pc := 153) dX9_init_153 rfl rfl ?_
  refine J_new (pc := 154) (ci := 5) (fs := [.null, .int (iI 0)]) rfl inX5 tyX5 tyX5_ok ik_X5 ini_X5 (by decide +kernel) rfl (fun _ => rfl) (by decide) lc_X9_9 dX9_init_154 ?_
  show qJ _ _ _ _ _ _ _ _ _ _ qh97 _
  refine J_dup (pc := 157) dX9_init_157 rfl ?_
  refine J_callI (pc := 158) (d' := 1) (st := [.ref 46, .int (iI 4), .ref 1]) im_yX5_init ini_X5 cd_yX5_init (by decide) rfl (by decide +kernel) (Or.inr (by simp [qnw, yX9_init, RX9])) dX9_init_158 (by decide) (Nat.le_of_ble_eq_true rfl) ct_X5_init_46 (fun h => by cases h) (fun r A1 h => ?_)
  cases h
  show qJ _ _ _ _ _ _ _ _ _ [.ref 46, .int (iI 4), .ref 1] qh100 _
  refine J_aastore' (pc := 161) (ci := 5) (q9 := 4) dX9_init_161 rfl rfl (fun _ => rfl) rfl (by decide +kernel) (by decide) ?_
  show qJ _ _ _ _ _ _ _ _ _ _ qh101 _
  refine J_iinc (pc := 162) (L' := [some (.ref 0), some (.int (iI 5))]) dX9_init_162 rfl (by decide) rfl rfl ?_
  refine J_goto (pc := 165) (tgt := 143) dX9_init_165 (by decide) ?_
  refine J_iload_n (pc := 143) dX9_init_143 rfl rfl ?_
  refine J_bipush (pc := 144) dX9_init_144 (by decide) (by decide) ?_
  refine J_ge_f (pc := 146) (tgt := 168) dX9_init_146 (by decide) (by decide +kernel) ?_
  refine J_aload_n (pc := 149) dX9_init_149 rfl rfl rfl ?_
  refine J_getfield (pc := 150) (ci := 9) (k := 0) rfl inX9 (by decide) lf_X9_11 dX9_init_150 rfl rfl ?_
  refine J_iload_n (pc := 153) dX9_init_153 rfl rfl ?_
  refine J_new (pc := 154) (ci := 5) (fs := [.null, .int (iI 0)]) rfl inX5 tyX5 tyX5_ok ik_X5 ini_X5 (by decide +kernel) rfl (fun _ => rfl) (by decide) lc_X9_9 dX9_init_154 ?_
  show qJ _ _ _ _ _ _ _ _ _ _ qh102 _
  refine J_dup (pc := 157) dX9_init_157 rfl ?_
  refine J_callI (pc := 158) (d' := 1) (st := [.ref 48, .int (iI 5), .ref 1]) im_yX5_init ini_X5 cd_yX5_init (by decide) rfl (by decide +kernel) (Or.inr (by simp [qnw, yX9_init, RX9])) dX9_init_158 (by decide) (Nat.le_of_ble_eq_true rfl) ct_X5_init_48 (fun h => by cases h) (fun r A1 h => ?_)
  cases h
  show qJ _ _ _ _ _ _ _ _ _ [.ref 48, .int (iI 5), .ref 1] qh105 _
  refine J_aastore' (pc := 161) (ci := 5) (q9 := 5) dX9_init_161 rfl rfl (fun _ => rfl) rfl (by decide +kernel) (by decide) ?_
  show qJ _ _ _ _ _ _ _ _ _ _ qh106 _
  refine J_iinc (pc := 162) (L' := [some (.ref 0), some (.int (iI 6))]) dX9_init_162 rfl (by decide) rfl rfl ?_
  refine J_goto (pc := 165) (tgt := 143) dX9_init_165 (by decide) ?_
  refine J_iload_n (pc := 143) dX9_init_143 rfl rfl ?_
  refine J_bipush (pc := 144) dX9_init_144 (by decide) (by decide) ?_
  refine J_ge_t (pc := 146) (tgt := 168) dX9_init_146 (by decide) (by decide +kernel) ?_
  refine J_iconst (pc := 168) dX9_init_168 ?_
  refine J_istore_n (pc := 169) (L' := [some (.ref 0), some (.int (iI 0))]) dX9_init_169 rfl (by decide) rfl rfl ?_
  refine J_iload_n (pc := 170) dX9_init_170 rfl rfl ?_
  refine J_iconst (pc := 171) dX9_init_171 ?_
  refine J_ge_f (pc := 172) (tgt := 194) dX9_init_172 (by decide) (by decide +kernel) ?_
  refine J_aload_n (pc := 175) dX9_init_175 rfl rfl rfl ?_
  refine J_getfield (pc := 176) (ci := 9) (k := 1) rfl inX9 (by decide) lf_X9_17 dX9_init_176 rfl rfl ?_
  refine J_iload_n (pc := 179) dX9_init_179 rfl rfl ?_
  refine J_new (pc := 180) (ci := 7) (fs := [.null, .int (iI 0)]) rfl inX7 tyX7 tyX7_ok ik_X7 ini_X7 (by decide +kernel) rfl (fun _ => rfl) (by decide) lc_X9_15 dX9_init_180 ?_
  show qJ _ _ _ _ _ _ _ _ _ _ qh107 _
  refine J_dup (pc := 183) dX9_init_183 rfl ?_
  refine J_callI (pc := 184) (d' := 1) (st := [.ref 50, .int (iI 0), .ref 2]) im_yX7_init ini_X7 cd_yX7_init (by decide) rfl (by decide +kernel) (Or.inr (by simp [qnw, yX9_init, RX9])) dX9_init_184 (by decide) (Nat.le_of_ble_eq_true rfl) ct_X7_init_50 (fun h => by cases h) (fun r A1 h => ?_)
  cases h
  show qJ _ _ _ _ _ _ _ _ _ [.ref 50, .int (iI 0), .ref 2] qh110 _
  refine J_aastore' (pc := 187) (ci := 7) (q9 := 0) dX9_init_187 rfl rfl (fun _ => rfl) rfl (by decide +kernel) (by decide) ?_
  show qJ _ _ _ _ _ _ _ _ _ _ qh111 _
  refine J_iinc (pc := 188) (L' := [some (.ref 0), some (.int (iI 1))]) dX9_init_188 rfl (by decide) rfl rfl ?_
  refine J_goto (pc := 191) (tgt := 170) dX9_init_191 (by decide) ?_
  refine J_iload_n (pc := 170) dX9_init_170 rfl rfl ?_
  refine J_iconst (pc := 171) dX9_init_171 ?_
  refine J_ge_f (pc := 172) (tgt := 194) dX9_init_172 (by decide) (by decide +kernel) ?_
  refine J_aload_n (pc := 175) dX9_init_175 rfl rfl rfl ?_
  refine J_getfield (pc := 176) (ci := 9) (k := 1) rfl inX9 (by decide) lf_X9_17 dX9_init_176 rfl rfl ?_
  refine J_iload_n (pc := 179) dX9_init_179 rfl rfl ?_
  refine J_new (pc := 180) (ci := 7) (fs := [.null, .int (iI 0)]) rfl inX7 tyX7 tyX7_ok ik_X7 ini_X7 (by decide +kernel) rfl (fun _ => rfl) (by decide) lc_X9_15 dX9_init_180 ?_
  show qJ _ _ _ _ _ _ _ _ _ _ qh112 _
  refine J_dup (pc := 183) dX9_init_183 rfl ?_
  refine J_callI (pc := 184) (d' := 1) (st := [.ref 52, .int (iI 1), .ref 2]) im_yX7_init ini_X7 cd_yX7_init (by decide) rfl (by decide +kernel) (Or.inr (by simp [qnw, yX9_init, RX9])) dX9_init_184 (by decide) (Nat.le_of_ble_eq_true rfl) ct_X7_init_52 (fun h => by cases h) (fun r A1 h => ?_)
  cases h
  show qJ _ _ _ _ _ _ _ _ _ [.ref 52, .int (iI 1), .ref 2] qh115 _
  refine J_aastore' (pc := 187) (ci := 7) (q9 := 1) dX9_init_187 rfl rfl (fun _ => rfl) rfl (by decide +kernel) (by decide) ?_
  show qJ _ _ _ _ _ _ _ _ _ _ qh116 _
  refine J_iinc (pc := 188) (L' := [some (.ref 0), some (.int (iI 2))]) dX9_init_188 rfl (by decide) rfl rfl ?_
  refine J_goto (pc := 191) (tgt := 170) dX9_init_191 (by decide) ?_
  refine J_iload_n (pc := 170) dX9_init_170 rfl rfl ?_
  refine J_iconst (pc := 171) dX9_init_171 ?_
  refine J_ge_f (pc := 172) (tgt := 194) dX9_init_172 (by decide) (by decide +kernel) ?_
  refine J_aload_n (pc := 175) dX9_init_175 rfl rfl rfl ?_
  refine J_getfield (pc := 176) (ci := 9) (k := 1) rfl inX9 (by decide) lf_X9_17 dX9_init_176 rfl rfl ?_
  refine J_iload_n (pc := 179) dX9_init_179 rfl rfl ?_
  refine J_new (pc := 180) (ci := 7) (fs := [.null, .int (iI 0)]) rfl inX7 tyX7 tyX7_ok ik_X7 ini_X7 (by decide +kernel) rfl (fun _ => rfl) (by decide) lc_X9_15 dX9_init_180 ?_
  show qJ _ _ _ _ _ _ _ _ _ _ qh117 _
  refine J_dup (pc := 183) dX9_init_183 rfl ?_
  refine J_callI (pc := 184) (d' := 1) (st := [.ref 54, .int (iI 2), .ref 2]) im_yX7_init ini_X7 cd_yX7_init (by decide) rfl (by decide +kernel) (Or.inr (by simp [qnw, yX9_init, RX9])) dX9_init_184 (by decide) (Nat.le_of_ble_eq_true rfl) ct_X7_init_54 (fun h => by cases h) (fun r A1 h => ?_)
  cases h
  show qJ _ _ _ _ _ _ _ _ _ [.ref 54, .int (iI 2), .ref 2] qh120 _
  refine J_aastore' (pc := 187) (ci := 7) (q9 := 2) dX9_init_187 rfl rfl (fun _ => rfl) rfl (by decide +kernel) (by decide) ?_
  show qJ _ _ _ _ _ _ _ _ _ _ qh121 _
  refine J_iinc (pc := 188) (L' := [some (.ref 0), some (.int (iI 3))]) dX9_init_188 rfl (by decide) rfl rfl ?_
  refine J_goto (pc := 191) (tgt := 170) dX9_init_191 (by decide) ?_
  refine J_iload_n (pc := 170) dX9_init_170 rfl rfl ?_
  refine J_iconst (pc := 171) dX9_init_171 ?_
  refine J_ge_f (pc := 172) (tgt := 194) dX9_init_172 (by decide) (by decide +kernel) ?_
  refine J_aload_n (pc := 175) dX9_init_175 rfl rfl rfl ?_
  refine J_getfield (pc := 176) (ci := 9) (k := 1) rfl inX9 (by decide) lf_X9_17 dX9_init_176 rfl rfl ?_
  refine J_iload_n (pc := 179) dX9_init_179 rfl rfl ?_
  refine J_new (pc := 180) (ci := 7) (fs := [.null, .int (iI 0)]) rfl inX7 tyX7 tyX7_ok ik_X7 ini_X7 (by decide +kernel) rfl (fun _ => rfl) (by decide) lc_X9_15 dX9_init_180 ?_
  show qJ _ _ _ _ _ _ _ _ _ _ qh122 _
  refine J_dup (pc := 183) dX9_init_183 rfl ?_
  refine J_callI (pc := 184) (d' := 1) (st := [.ref 56, .int (iI 3), .ref 2]) im_yX7_init ini_X7 cd_yX7_init (by decide) rfl (by decide +kernel) (Or.inr (by simp [qnw, yX9_init, RX9])) dX9_init_184 (by decide) (Nat.le_of_ble_eq_true rfl) ct_X7_init_56 (fun h => by cases h) (fun r A1 h => ?_)
  cases h
  show qJ _ _ _ _ _ _ _ _ _ [.ref 56, .int (iI 3), .ref 2] qh125 _
  refine J_aastore' (pc := 187) (ci := 7) (q9 := 3) dX9_init_187 rfl rfl (fun _ => rfl) rfl (by decide +kernel) (by decide) ?_
  show qJ _ _ _ _ _ _ _ _ _ _ qh126 _
  refine J_iinc (pc := 188) (L' := [some (.ref 0), some (.int (iI 4))]) dX9_init_188 rfl (by decide) rfl rfl ?_
  refine J_goto (pc := 191) (tgt := 170) dX9_init_191 (by decide) ?_
  refine J_iload_n (pc := 170) dX9_init_170 rfl rfl ?_
  refine J_iconst (pc := 171) dX9_init_171 ?_
  refine J_ge_t (pc := 172) (tgt := 194) dX9_init_172 (by decide) (by decide +kernel) ?_
  refine J_iconst (pc := 194) dX9_init_194 ?_
  refine J_istore_n (pc := 195) (L' := [some (.ref 0), some (.int (iI 0))]) dX9_init_195 rfl (by decide) rfl rfl ?_
  refine J_iload_n (pc := 196) dX9_init_196 rfl rfl ?_
  refine J_iconst (pc := 197) dX9_init_197 ?_
  refine J_ge_f (pc := 198) (tgt := 230) dX9_init_198 (by decide) (by decide +kernel) ?_
  refine J_aload_n (pc := 201) dX9_init_201 rfl rfl rfl ?_
  refine J_getfield (pc := 202) (ci := 9) (k := 6) rfl inX9 (by decide) lf_X9_49 dX9_init_202 rfl rfl ?_
  refine J_iload_n (pc := 205) dX9_init_205 rfl rfl ?_
  refine J_new (pc := 206) (ci := 2) (fs := [.null, .null, .int (iI 0)]) rfl inX2 tyX2 tyX2_ok ik_X2 ini_X2 (by decide +kernel) rfl (fun _ => rfl) (by decide) lc_X9_42 dX9_init_206 ?_
  show qJ _ _ _ _ _ _ _ _ _ _ qh127 _
  refine J_dup (pc := 209) dX9_init_209 rfl ?_
  refine J_callI (pc := 210) (d' := 1) (st := [.ref 58, .int (iI 0), .ref 18]) im_yX2_init ini_X2 cd_yX2_init (by decide) rfl (by decide +kernel) (Or.inr (by simp [qnw, yX9_init, RX9])) dX9_init_210 (by decide) (Nat.le_of_ble_eq_true rfl) ct_X2_init_58 (fun h => by cases h) (fun r A1 h => ?_)
  cases h
  show qJ _ _ _ _ _ _ _ _ _ [.ref 58, .int (iI 0), .ref 18] qh131 _
  refine J_aastore' (pc := 213) (ci := 2) (q9 := 0) dX9_init_213 rfl rfl (fun _ => rfl) rfl (by decide +kernel) (by decide) ?_
  show qJ _ _ _ _ _ _ _ _ _ _ qh132 _
  refine J_aload_n (pc := 214) dX9_init_214 rfl rfl rfl ?_
  refine J_getfield (pc := 215) (ci := 9) (k := 6) rfl inX9 (by decide) lf_X9_49 dX9_init_215 rfl rfl ?_
  refine J_iload_n (pc := 218) dX9_init_218 rfl rfl ?_
  refine J_aaload' (pc := 219) (i := 58) (q9 := 0) dX9_init_219 rfl rfl (by decide +kernel) (by decide) rfl ?_
  refine J_iconst (pc := 220) dX9_init_220 ?_
  refine J_putfield (pc := 221) (ci := 2) (k := 2) rfl inX2 (by decide) lf_X9_97 tyX2 tyX2_ok nmX2 rfl dX9_init_221 rfl (by decide) rfl rfl ?_
  show qJ _ _ _ _ _ _ _ _ _ _ qh133 _
  refine J_iinc (pc := 224) (L' := [some (.ref 0), some (.int (iI 1))]) dX9_init_224 rfl (by decide) rfl rfl ?_
  refine J_goto (pc := 227) (tgt := 196) dX9_init_227 (by decide) ?_
  refine J_iload_n (pc := 196) dX9_init_196 rfl rfl ?_
  refine J_iconst (pc := 197) dX9_init_197 ?_
  refine J_ge_f (pc := 198) (tgt := 230) dX9_init_198 (by decide) (by decide +kernel) ?_
  refine J_aload_n (pc := 201) dX9_init_201 rfl rfl rfl ?_
  refine J_getfield (pc := 202) (ci := 9) (k := 6) rfl inX9 (by decide) lf_X9_49 dX9_init_202 rfl rfl ?_
  refine J_iload_n (pc := 205) dX9_init_205 rfl rfl ?_
  refine J_new (pc := 206) (ci := 2) (fs := [.null, .null, .int (iI 0)]) rfl inX2 tyX2 tyX2_ok ik_X2 ini_X2 (by decide +kernel) rfl (fun _ => rfl) (by decide) lc_X9_42 dX9_init_206 ?_
  show qJ _ _ _ _ _ _ _ _ _ _ qh134 _
  refine J_dup (pc := 209) dX9_init_209 rfl ?_
  refine J_callI (pc := 210) (d' := 1) (st := [.ref 61, .int (iI 1), .ref 18]) im_yX2_init ini_X2 cd_yX2_init (by decide) rfl (by decide +kernel) (Or.inr (by simp [qnw, yX9_init, RX9])) dX9_init_210 (by decide) (Nat.le_of_ble_eq_true rfl) ct_X2_init_61 (fun h => by cases h) (fun r A1 h => ?_)
  cases h
  show qJ _ _ _ _ _ _ _ _ _ [.ref 61, .int (iI 1), .ref 18] qh138 _
  refine J_aastore' (pc := 213) (ci := 2) (q9 := 1) dX9_init_213 rfl rfl (fun _ => rfl) rfl (by decide +kernel) (by decide) ?_
  show qJ _ _ _ _ _ _ _ _ _ _ qh139 _
  refine J_aload_n (pc := 214) dX9_init_214 rfl rfl rfl ?_
  refine J_getfield (pc := 215) (ci := 9) (k := 6) rfl inX9 (by decide) lf_X9_49 dX9_init_215 rfl rfl ?_
  refine J_iload_n (pc := 218) dX9_init_218 rfl rfl ?_
  refine J_aaload' (pc := 219) (i := 61) (q9 := 1) dX9_init_219 rfl rfl (by decide +kernel) (by decide) rfl ?_
  refine J_iconst (pc := 220) dX9_init_220 ?_
  refine J_putfield (pc := 221) (ci := 2) (k := 2) rfl inX2 (by decide) lf_X9_97 tyX2 tyX2_ok nmX2 rfl dX9_init_221 rfl (by decide) rfl rfl ?_
  show qJ _ _ _ _ _ _ _ _ _ _ qh140 _
  refine J_iinc (pc := 224) (L' := [some (.ref 0), some (.int (iI 2))]) dX9_init_224 rfl (by decide) rfl rfl ?_
  refine J_goto (pc := 227) (tgt := 196) dX9_init_227 (by decide) ?_
  refine J_iload_n (pc := 196) dX9_init_196 rfl rfl ?_
  refine J_iconst (pc := 197) dX9_init_197 ?_
  refine J_ge_f (pc := 198) (tgt := 230) dX9_init_198 (by decide) (by decide +kernel) ?_
  refine J_aload_n (pc := 201) dX9_init_201 rfl rfl rfl ?_
  refine J_getfield (pc := 202) (ci := 9) (k := 6) rfl inX9 (by decide) lf_X9_49 dX9_init_202 rfl rfl ?_
  refine J_iload_n (pc := 205) dX9_init_205 rfl rfl ?_
  refine J_new (pc := 206) (ci := 2) (fs := [.null, .null, .int (iI 0)]) rfl inX2 tyX2 tyX2_ok ik_X2 ini_X2 (by decide +kernel) rfl (fun _ => rfl) (by decide) lc_X9_42 dX9_init_206 ?_
  show qJ _ _ _ _ _ _ _ _ _ _ qh141 _
  refine J_dup (pc := 209) dX9_init_209 rfl ?_
  refine J_callI (pc := 210) (d' := 1) (st := [.ref 64, .int (iI 2), .ref 18]) im_yX2_init ini_X2 cd_yX2_init (by decide) rfl (by decide +kernel) (Or.inr (by simp [qnw, yX9_init, RX9])) dX9_init_210 (by decide) (Nat.le_of_ble_eq_true rfl) ct_X2_init_64 (fun h => by cases h) (fun r A1 h => ?_)
  cases h
  show qJ _ _ _ _ _ _ _ _ _ [.ref 64, .int (iI 2), .ref 18] qh145 _
  refine J_aastore' (pc := 213) (ci := 2) (q9 := 2) dX9_init_213 rfl rfl (fun _ => rfl) rfl (by decide +kernel) (by decide) ?_
  show qJ _ _ _ _ _ _ _ _ _ _ qh146 _
  refine J_aload_n (pc := 214) dX9_init_214 rfl rfl rfl ?_
  refine J_getfield (pc := 215) (ci := 9) (k := 6) rfl inX9 (by decide) lf_X9_49 dX9_init_215 rfl rfl ?_
  refine J_iload_n (pc := 218) dX9_init_218 rfl rfl ?_
  refine J_aaload' (pc := 219) (i := 64) (q9 := 2) dX9_init_219 rfl rfl (by decide +kernel) (by decide) rfl ?_
  refine J_iconst (pc := 220) dX9_init_220 ?_
  refine J_putfield (pc := 221) (ci := 2) (k := 2) rfl inX2 (by decide) lf_X9_97 tyX2 tyX2_ok nmX2 rfl dX9_init_221 rfl (by decide) rfl rfl ?_
  show qJ _ _ _ _ _ _ _ _ _ _ qh147 _
  refine J_iinc (pc := 224) (L' := [some (.ref 0), some (.int (iI 3))]) dX9_init_224 rfl (by decide) rfl rfl ?_
  refine J_goto (pc := 227) (tgt := 196) dX9_init_227 (by decide) ?_
  refine J_iload_n (pc := 196) dX9_init_196 rfl rfl ?_
  refine J_iconst (pc := 197) dX9_init_197 ?_
  refine J_ge_t (pc := 198) (tgt := 230) dX9_init_198 (by decide) (by decide +kernel) ?_
  exact J_ret (pc := 230) (r := none) dX9_init_230 (Or.inr (Or.inr ⟨rfl, rfl, rfl⟩)) rfl
def qc105 : qE := .inr (10, [.int (iI 0), .int (iI 0), .null, .null, .null, .null, .null, .null, .int (iI 0), .null, .int (iI 0), .long (iL 0), .long (iL 0), .int (iI 0), .null, .null, .null, .null, .null, .null, .null, .null, .null, .null, .int (iI 0), .int (iI 0), .int (iI 0), .int (iI 0), .null, .null, .null, .null, .null, .null, .null, .int (iI 0), .int (iI 0), .null, .null])
def qh148 : qH := [qc58, qc78, qc92, qc10, qc7, qc9, qc21, qc13, qc15, qc17, qc17, qc17, qc17, qc24, qc9, qc29, qc27, qc17, qc103, qc35, qc34, qc9, qc42, qc48, qc40, qc40, qc43, qc9, qc45, qc9, qc47, qc9, qc54, qc51, qc9, qc53, qc13, qc15, qc62, qc60, qc65, qc60, qc68, qc60, qc71, qc60, qc74, qc60, qc77, qc60, qc82, qc80, qc85, qc80, qc88, qc80, qc91, qc80, qc96, qc27, qc17, qc100, qc27, qc17, qc104, qc27, qc17, qc105]
def qh149 : qH := [qc58, qc78, qc92, qc10, qc7, qc9, qc21, qc13, qc15, qc17, qc17, qc17, qc17, qc24, qc9, qc29, qc27, qc17, qc103, qc35, qc34, qc9, qc42, qc48, qc40, qc40, qc43, qc9, qc45, qc9, qc47, qc9, qc54, qc51, qc9, qc53, qc13, qc15, qc62, qc60, qc65, qc60, qc68, qc60, qc71, qc60, qc74, qc60, qc77, qc60, qc82, qc80, qc85, qc80, qc88, qc80, qc91, qc80, qc96, qc27, qc17, qc100, qc27, qc17, qc104, qc27, qc17, qc105, qc13]
def qc106 : qE := .inr (10, [.int (iI 0), .int (iI 0), .ref 68, .null, .null, .null, .null, .null, .int (iI 0), .null, .int (iI 0), .long (iL 0), .long (iL 0), .int (iI 0), .null, .null, .null, .null, .null, .null, .null, .null, .null, .null, .int (iI 0), .int (iI 0), .int (iI 0), .int (iI 0), .null, .null, .null, .null, .null, .null, .null, .int (iI 0), .int (iI 0), .null, .null])
def qh150 : qH := [qc58, qc78, qc92, qc10, qc7, qc9, qc21, qc13, qc15, qc17, qc17, qc17, qc17, qc24, qc9, qc29, qc27, qc17, qc103, qc35, qc34, qc9, qc42, qc48, qc40, qc40, qc43, qc9, qc45, qc9, qc47, qc9, qc54, qc51, qc9, qc53, qc13, qc15, qc62, qc60, qc65, qc60, qc68, qc60, qc71, qc60, qc74, qc60, qc77, qc60, qc82, qc80, qc85, qc80, qc88, qc80, qc91, qc80, qc96, qc27, qc17, qc100, qc27, qc17, qc104, qc27, qc17, qc106, qc13]
def qh151 : qH := [qc58, qc78, qc92, qc10, qc7, qc9, qc21, qc13, qc15, qc17, qc17, qc17, qc17, qc24, qc9, qc29, qc27, qc17, qc103, qc35, qc34, qc9, qc42, qc48, qc40, qc40, qc43, qc9, qc45, qc9, qc47, qc9, qc54, qc51, qc9, qc53, qc13, qc15, qc62, qc60, qc65, qc60, qc68, qc60, qc71, qc60, qc74, qc60, qc77, qc60, qc82, qc80, qc85, qc80, qc88, qc80, qc91, qc80, qc96, qc27, qc17, qc100, qc27, qc17, qc104, qc27, qc17, qc106, qc13, qc17]
def qc107 : qE := .inr (10, [.int (iI 0), .int (iI 0), .ref 68, .ref 69, .null, .null, .null, .null, .int (iI 0), .null, .int (iI 0), .long (iL 0), .long (iL 0), .int (iI 0), .null, .null, .null, .null, .null, .null, .null, .null, .null, .null, .int (iI 0), .int (iI 0), .int (iI 0), .int (iI 0), .null, .null, .null, .null, .null, .null, .null, .int (iI 0), .int (iI 0), .null, .null])
def qh152 : qH := [qc58, qc78, qc92, qc10, qc7, qc9, qc21, qc13, qc15, qc17, qc17, qc17, qc17, qc24, qc9, qc29, qc27, qc17, qc103, qc35, qc34, qc9, qc42, qc48, qc40, qc40, qc43, qc9, qc45, qc9, qc47, qc9, qc54, qc51, qc9, qc53, qc13, qc15, qc62, qc60, qc65, qc60, qc68, qc60, qc71, qc60, qc74, qc60, qc77, qc60, qc82, qc80, qc85, qc80, qc88, qc80, qc91, qc80, qc96, qc27, qc17, qc100, qc27, qc17, qc104, qc27, qc17, qc107, qc13, qc17]
def qh153 : qH := [qc58, qc78, qc92, qc10, qc7, qc9, qc21, qc13, qc15, qc17, qc17, qc17, qc17, qc24, qc9, qc29, qc27, qc17, qc103, qc35, qc34, qc9, qc42, qc48, qc40, qc40, qc43, qc9, qc45, qc9, qc47, qc9, qc54, qc51, qc9, qc53, qc13, qc15, qc62, qc60, qc65, qc60, qc68, qc60, qc71, qc60, qc74, qc60, qc77, qc60, qc82, qc80, qc85, qc80, qc88, qc80, qc91, qc80, qc96, qc27, qc17, qc100, qc27, qc17, qc104, qc27, qc17, qc107, qc13, qc17, qc17]
def qc108 : qE := .inr (10, [.int (iI 0), .int (iI 0), .ref 68, .ref 69, .ref 70, .null, .null, .null, .int (iI 0), .null, .int (iI 0), .long (iL 0), .long (iL 0), .int (iI 0), .null, .null, .null, .null, .null, .null, .null, .null, .null, .null, .int (iI 0), .int (iI 0), .int (iI 0), .int (iI 0), .null, .null, .null, .null, .null, .null, .null, .int (iI 0), .int (iI 0), .null, .null])
def qh154 : qH := [qc58, qc78, qc92, qc10, qc7, qc9, qc21, qc13, qc15, qc17, qc17, qc17, qc17, qc24, qc9, qc29, qc27, qc17, qc103, qc35, qc34, qc9, qc42, qc48, qc40, qc40, qc43, qc9, qc45, qc9, qc47, qc9, qc54, qc51, qc9, qc53, qc13, qc15, qc62, qc60, qc65, qc60, qc68, qc60, qc71, qc60, qc74, qc60, qc77, qc60, qc82, qc80, qc85, qc80, qc88, qc80, qc91, qc80, qc96, qc27, qc17, qc100, qc27, qc17, qc104, qc27, qc17, qc108, qc13, qc17, qc17]
def qh155 : qH := [qc58, qc78, qc92, qc10, qc7, qc9, qc21, qc13, qc15, qc17, qc17, qc17, qc17, qc24, qc9, qc29, qc27, qc17, qc103, qc35, qc34, qc9, qc42, qc48, qc40, qc40, qc43, qc9, qc45, qc9, qc47, qc9, qc54, qc51, qc9, qc53, qc13, qc15, qc62, qc60, qc65, qc60, qc68, qc60, qc71, qc60, qc74, qc60, qc77, qc60, qc82, qc80, qc85, qc80, qc88, qc80, qc91, qc80, qc96, qc27, qc17, qc100, qc27, qc17, qc104, qc27, qc17, qc108, qc13, qc17, qc17, qc17]
def qc109 : qE := .inr (10, [.int (iI 0), .int (iI 0), .ref 68, .ref 69, .ref 70, .ref 71, .null, .null, .int (iI 0), .null, .int (iI 0), .long (iL 0), .long (iL 0), .int (iI 0), .null, .null, .null, .null, .null, .null, .null, .null, .null, .null, .int (iI 0), .int (iI 0), .int (iI 0), .int (iI 0), .null, .null, .null, .null, .null, .null, .null, .int (iI 0), .int (iI 0), .null, .null])
def qh156 : qH := [qc58, qc78, qc92, qc10, qc7, qc9, qc21, qc13, qc15, qc17, qc17, qc17, qc17, qc24, qc9, qc29, qc27, qc17, qc103, qc35, qc34, qc9, qc42, qc48, qc40, qc40, qc43, qc9, qc45, qc9, qc47, qc9, qc54, qc51, qc9, qc53, qc13, qc15, qc62, qc60, qc65, qc60, qc68, qc60, qc71, qc60, qc74, qc60, qc77, qc60, qc82, qc80, qc85, qc80, qc88, qc80, qc91, qc80, qc96, qc27, qc17, qc100, qc27, qc17, qc104, qc27, qc17, qc109, qc13, qc17, qc17, qc17]
def qh157 : qH := [qc58, qc78, qc92, qc10, qc7, qc9, qc21, qc13, qc15, qc17, qc17, qc17, qc17, qc24, qc9, qc29, qc27, qc17, qc103, qc35, qc34, qc9, qc42, qc48, qc40, qc40, qc43, qc9, qc45, qc9, qc47, qc9, qc54, qc51, qc9, qc53, qc13, qc15, qc62, qc60, qc65, qc60, qc68, qc60, qc71, qc60, qc74, qc60, qc77, qc60, qc82, qc80, qc85, qc80, qc88, qc80, qc91, qc80, qc96, qc27, qc17, qc100, qc27, qc17, qc104, qc27, qc17, qc109, qc13, qc17, qc17, qc17, qc17]
def qc110 : qE := .inr (10, [.int (iI 0), .int (iI 0), .ref 68, .ref 69, .ref 70, .ref 71, .ref 72, .null, .int (iI 0), .null, .int (iI 0), .long (iL 0), .long (iL 0), .int (iI 0), .null, .null, .null, .null, .null, .null, .null, .null, .null, .null, .int (iI 0), .int (iI 0), .int (iI 0), .int (iI 0), .null, .null, .null, .null, .null, .null, .null, .int (iI 0), .int (iI 0), .null, .null])
def qh158 : qH := [qc58, qc78, qc92, qc10, qc7, qc9, qc21, qc13, qc15, qc17, qc17, qc17, qc17, qc24, qc9, qc29, qc27, qc17, qc103, qc35, qc34, qc9, qc42, qc48, qc40, qc40, qc43, qc9, qc45, qc9, qc47, qc9, qc54, qc51, qc9, qc53, qc13, qc15, qc62, qc60, qc65, qc60, qc68, qc60, qc71, qc60, qc74, qc60, qc77, qc60, qc82, qc80, qc85, qc80, qc88, qc80, qc91, qc80, qc96, qc27, qc17, qc100, qc27, qc17, qc104, qc27, qc17, qc110, qc13, qc17, qc17, qc17, qc17]
def qh159 : qH := [qc58, qc78, qc92, qc10, qc7, qc9, qc21, qc13, qc15, qc17, qc17, qc17, qc17, qc24, qc9, qc29, qc27, qc17, qc103, qc35, qc34, qc9, qc42, qc48, qc40, qc40, qc43, qc9, qc45, qc9, qc47, qc9, qc54, qc51, qc9, qc53, qc13, qc15, qc62, qc60, qc65, qc60, qc68, qc60, qc71, qc60, qc74, qc60, qc77, qc60, qc82, qc80, qc85, qc80, qc88, qc80, qc91, qc80, qc96, qc27, qc17, qc100, qc27, qc17, qc104, qc27, qc17, qc110, qc13, qc17, qc17, qc17, qc17, qc9]
def qc111 : qE := .inr (10, [.int (iI 0), .int (iI 0), .ref 68, .ref 69, .ref 70, .ref 71, .ref 72, .ref 73, .int (iI 0), .null, .int (iI 0), .long (iL 0), .long (iL 0), .int (iI 0), .null, .null, .null, .null, .null, .null, .null, .null, .null, .null, .int (iI 0), .int (iI 0), .int (iI 0), .int (iI 0), .null, .null, .null, .null, .null, .null, .null, .int (iI 0), .int (iI 0), .null, .null])
def qh160 : qH := [qc58, qc78, qc92, qc10, qc7, qc9, qc21, qc13, qc15, qc17, qc17, qc17, qc17, qc24, qc9, qc29, qc27, qc17, qc103, qc35, qc34, qc9, qc42, qc48, qc40, qc40, qc43, qc9, qc45, qc9, qc47, qc9, qc54, qc51, qc9, qc53, qc13, qc15, qc62, qc60, qc65, qc60, qc68, qc60, qc71, qc60, qc74, qc60, qc77, qc60, qc82, qc80, qc85, qc80, qc88, qc80, qc91, qc80, qc96, qc27, qc17, qc100, qc27, qc17, qc104, qc27, qc17, qc111, qc13, qc17, qc17, qc17, qc17, qc9]
def qc112 : qE := .inl (0, 960, .inl (fun _ => 0))
def qh161 : qH := [qc58, qc78, qc92, qc10, qc7, qc9, qc21, qc13, qc15, qc17, qc17, qc17, qc17, qc24, qc9, qc29, qc27, qc17, qc103, qc35, qc34, qc9, qc42, qc48, qc40, qc40, qc43, qc9, qc45, qc9, qc47, qc9, qc54, qc51, qc9, qc53, qc13, qc15, qc62, qc60, qc65, qc60, qc68, qc60, qc71, qc60, qc74, qc60, qc77, qc60, qc82, qc80, qc85, qc80, qc88, qc80, qc91, qc80, qc96, qc27, qc17, qc100, qc27, qc17, qc104, qc27, qc17, qc111, qc13, qc17, qc17, qc17, qc17, qc9, qc112]
def qc113 : qE := .inr (10, [.int (iI 0), .int (iI 0), .ref 68, .ref 69, .ref 70, .ref 71, .ref 72, .ref 73, .int (iI 0), .ref 74, .int (iI 0), .long (iL 0), .long (iL 0), .int (iI 0), .null, .null, .null, .null, .null, .null, .null, .null, .null, .null, .int (iI 0), .int (iI 0), .int (iI 0), .int (iI 0), .null, .null, .null, .null, .null, .null, .null, .int (iI 0), .int (iI 0), .null, .null])
def qh162 : qH := [qc58, qc78, qc92, qc10, qc7, qc9, qc21, qc13, qc15, qc17, qc17, qc17, qc17, qc24, qc9, qc29, qc27, qc17, qc103, qc35, qc34, qc9, qc42, qc48, qc40, qc40, qc43, qc9, qc45, qc9, qc47, qc9, qc54, qc51, qc9, qc53, qc13, qc15, qc62, qc60, qc65, qc60, qc68, qc60, qc71, qc60, qc74, qc60, qc77, qc60, qc82, qc80, qc85, qc80, qc88, qc80, qc91, qc80, qc96, qc27, qc17, qc100, qc27, qc17, qc104, qc27, qc17, qc113, qc13, qc17, qc17, qc17, qc17, qc9, qc112]
def qc114 : qE := .inr (10, [.int (iI 0), .int (iI 0), .ref 68, .ref 69, .ref 70, .ref 71, .ref 72, .ref 73, .int (iI 0), .ref 74, .int (iI 0), .long (iL 0), .long (iL 1), .int (iI 0), .null, .null, .null, .null, .null, .null, .null, .null, .null, .null, .int (iI 0), .int (iI 0), .int (iI 0), .int (iI 0), .null, .null, .null, .null, .null, .null, .null, .int (iI 0), .int (iI 0), .null, .null])
def qh163 : qH := [qc58, qc78, qc92, qc10, qc7, qc9, qc21, qc13, qc15, qc17, qc17, qc17, qc17, qc24, qc9, qc29, qc27, qc17, qc103, qc35, qc34, qc9, qc42, qc48, qc40, qc40, qc43, qc9, qc45, qc9, qc47, qc9, qc54, qc51, qc9, qc53, qc13, qc15, qc62, qc60, qc65, qc60, qc68, qc60, qc71, qc60, qc74, qc60, qc77, qc60, qc82, qc80, qc85, qc80, qc88, qc80, qc91, qc80, qc96, qc27, qc17, qc100, qc27, qc17, qc104, qc27, qc17, qc114, qc13, qc17, qc17, qc17, qc17, qc9, qc112]
def qh164 : qH := [qc58, qc78, qc92, qc10, qc7, qc9, qc21, qc13, qc15, qc17, qc17, qc17, qc17, qc24, qc9, qc29, qc27, qc17, qc103, qc35, qc34, qc9, qc42, qc48, qc40, qc40, qc43, qc9, qc45, qc9, qc47, qc9, qc54, qc51, qc9, qc53, qc13, qc15, qc62, qc60, qc65, qc60, qc68, qc60, qc71, qc60, qc74, qc60, qc77, qc60, qc82, qc80, qc85, qc80, qc88, qc80, qc91, qc80, qc96, qc27, qc17, qc100, qc27, qc17, qc104, qc27, qc17, qc114, qc13, qc17, qc17, qc17, qc17, qc9, qc112, qc15]
def qc115 : qE := .inr (10, [.int (iI 0), .int (iI 0), .ref 68, .ref 69, .ref 70, .ref 71, .ref 72, .ref 73, .int (iI 0), .ref 74, .int (iI 0), .long (iL 0), .long (iL 1), .int (iI 0), .ref 75, .null, .null, .null, .null, .null, .null, .null, .null, .null, .int (iI 0), .int (iI 0), .int (iI 0), .int (iI 0), .null, .null, .null, .null, .null, .null, .null, .int (iI 0), .int (iI 0), .null, .null])
def qh165 : qH := [qc58, qc78, qc92, qc10, qc7, qc9, qc21, qc13, qc15, qc17, qc17, qc17, qc17, qc24, qc9, qc29, qc27, qc17, qc103, qc35, qc34, qc9, qc42, qc48, qc40, qc40, qc43, qc9, qc45, qc9, qc47, qc9, qc54, qc51, qc9, qc53, qc13, qc15, qc62, qc60, qc65, qc60, qc68, qc60, qc71, qc60, qc74, qc60, qc77, qc60, qc82, qc80, qc85, qc80, qc88, qc80, qc91, qc80, qc96, qc27, qc17, qc100, qc27, qc17, qc104, qc27, qc17, qc115, qc13, qc17, qc17, qc17, qc17, qc9, qc112, qc15]
def qh166 : qH := [qc58, qc78, qc92, qc10, qc7, qc9, qc21, qc13, qc15, qc17, qc17, qc17, qc17, qc24, qc9, qc29, qc27, qc17, qc103, qc35, qc34, qc9, qc42, qc48, qc40, qc40, qc43, qc9, qc45, qc9, qc47, qc9, qc54, qc51, qc9, qc53, qc13, qc15, qc62, qc60, qc65, qc60, qc68, qc60, qc71, qc60, qc74, qc60, qc77, qc60, qc82, qc80, qc85, qc80, qc88, qc80, qc91, qc80, qc96, qc27, qc17, qc100, qc27, qc17, qc104, qc27, qc17, qc115, qc13, qc17, qc17, qc17, qc17, qc9, qc112, qc15, qc15]
def qc116 : qE := .inr (10, [.int (iI 0), .int (iI 0), .ref 68, .ref 69, .ref 70, .ref 71, .ref 72, .ref 73, .int (iI 0), .ref 74, .int (iI 0), .long (iL 0), .long (iL 1), .int (iI 0), .ref 75, .ref 76, .null, .null, .null, .null, .null, .null, .null, .null, .int (iI 0), .int (iI 0), .int (iI 0), .int (iI 0), .null, .null, .null, .null, .null, .null, .null, .int (iI 0), .int (iI 0), .null, .null])
def qh167 : qH := [qc58, qc78, qc92, qc10, qc7, qc9, qc21, qc13, qc15, qc17, qc17, qc17, qc17, qc24, qc9, qc29, qc27, qc17, qc103, qc35, qc34, qc9, qc42, qc48, qc40, qc40, qc43, qc9, qc45, qc9, qc47, qc9, qc54, qc51, qc9, qc53, qc13, qc15, qc62, qc60, qc65, qc60, qc68, qc60, qc71, qc60, qc74, qc60, qc77, qc60, qc82, qc80, qc85, qc80, qc88, qc80, qc91, qc80, qc96, qc27, qc17, qc100, qc27, qc17, qc104, qc27, qc17, qc116, qc13, qc17, qc17, qc17, qc17, qc9, qc112, qc15, qc15]
def qc117 : qE := .inl (0, 240, .inl (fun _ => 0))
def qh168 : qH := [qc58, qc78, qc92, qc10, qc7, qc9, qc21, qc13, qc15, qc17, qc17, qc17, qc17, qc24, qc9, qc29, qc27, qc17, qc103, qc35, qc34, qc9, qc42, qc48, qc40, qc40, qc43, qc9, qc45, qc9, qc47, qc9, qc54, qc51, qc9, qc53, qc13, qc15, qc62, qc60, qc65, qc60, qc68, qc60, qc71, qc60, qc74, qc60, qc77, qc60, qc82, qc80, qc85, qc80, qc88, qc80, qc91, qc80, qc96, qc27, qc17, qc100, qc27, qc17, qc104, qc27, qc17, qc116, qc13, qc17, qc17, qc17, qc17, qc9, qc112, qc15, qc15, qc117]
def qc118 : qE := .inr (10, [.int (iI 0), .int (iI 0), .ref 68, .ref 69, .ref 70, .ref 71, .ref 72, .ref 73, .int (iI 0), .ref 74, .int (iI 0), .long (iL 0), .long (iL 1), .int (iI 0), .ref 75, .ref 76, .ref 77, .null, .null, .null, .null, .null, .null, .null, .int (iI 0), .int (iI 0), .int (iI 0), .int (iI 0), .null, .null, .null, .null, .null, .null, .null, .int (iI 0), .int (iI 0), .null, .null])
def qh169 : qH := [qc58, qc78, qc92, qc10, qc7, qc9, qc21, qc13, qc15, qc17, qc17, qc17, qc17, qc24, qc9, qc29, qc27, qc17, qc103, qc35, qc34, qc9, qc42, qc48, qc40, qc40, qc43, qc9, qc45, qc9, qc47, qc9, qc54, qc51, qc9, qc53, qc13, qc15, qc62, qc60, qc65, qc60, qc68, qc60, qc71, qc60, qc74, qc60, qc77, qc60, qc82, qc80, qc85, qc80, qc88, qc80, qc91, qc80, qc96, qc27, qc17, qc100, qc27, qc17, qc104, qc27, qc17, qc118, qc13, qc17, qc17, qc17, qc17, qc9, qc112, qc15, qc15, qc117]
def qh170 : qH := [qc58, qc78, qc92, qc10, qc7, qc9, qc21, qc13, qc15, qc17, qc17, qc17, qc17, qc24, qc9, qc29, qc27, qc17, qc103, qc35, qc34, qc9, qc42, qc48, qc40, qc40, qc43, qc9, qc45, qc9, qc47, qc9, qc54, qc51, qc9, qc53, qc13, qc15, qc62, qc60, qc65, qc60, qc68, qc60, qc71, qc60, qc74, qc60, qc77, qc60, qc82, qc80, qc85, qc80, qc88, qc80, qc91, qc80, qc96, qc27, qc17, qc100, qc27, qc17, qc104, qc27, qc17, qc118, qc13, qc17, qc17, qc17, qc17, qc9, qc112, qc15, qc15, qc117, qc17]
def qc119 : qE := .inr (10, [.int (iI 0), .int (iI 0), .ref 68, .ref 69, .ref 70, .ref 71, .ref 72, .ref 73, .int (iI 0), .ref 74, .int (iI 0), .long (iL 0), .long (iL 1), .int (iI 0), .ref 75, .ref 76, .ref 77, .ref 78, .null, .null, .null, .null, .null, .null, .int (iI 0), .int (iI 0), .int (iI 0), .int (iI 0), .null, .null, .null, .null, .null, .null, .null, .int (iI 0), .int (iI 0), .null, .null])
def qh171 : qH := [qc58, qc78, qc92, qc10, qc7, qc9, qc21, qc13, qc15, qc17, qc17, qc17, qc17, qc24, qc9, qc29, qc27, qc17, qc103, qc35, qc34, qc9, qc42, qc48, qc40, qc40, qc43, qc9, qc45, qc9, qc47, qc9, qc54, qc51, qc9, qc53, qc13, qc15, qc62, qc60, qc65, qc60, qc68, qc60, qc71, qc60, qc74, qc60, qc77, qc60, qc82, qc80, qc85, qc80, qc88, qc80, qc91, qc80, qc96, qc27, qc17, qc100, qc27, qc17, qc104, qc27, qc17, qc119, qc13, qc17, qc17, qc17, qc17, qc9, qc112, qc15, qc15, qc117, qc17]
def qh172 : qH := [qc58, qc78, qc92, qc10, qc7, qc9, qc21, qc13, qc15, qc17, qc17, qc17, qc17, qc24, qc9, qc29, qc27, qc17, qc103, qc35, qc34, qc9, qc42, qc48, qc40, qc40, qc43, qc9, qc45, qc9, qc47, qc9, qc54, qc51, qc9, qc53, qc13, qc15, qc62, qc60, qc65, qc60, qc68, qc60, qc71, qc60, qc74, qc60, qc77, qc60, qc82, qc80, qc85, qc80, qc88, qc80, qc91, qc80, qc96, qc27, qc17, qc100, qc27, qc17, qc104, qc27, qc17, qc119, qc13, qc17, qc17, qc17, qc17, qc9, qc112, qc15, qc15, qc117, qc17, qc117]
def qc120 : qE := .inr (10, [.int (iI 0), .int (iI 0), .ref 68, .ref 69, .ref 70, .ref 71, .ref 72, .ref 73, .int (iI 0), .ref 74, .int (iI 0), .long (iL 0), .long (iL 1), .int (iI 0), .ref 75, .ref 76, .ref 77, .ref 78, .ref 79, .null, .null, .null, .null, .null, .int (iI 0), .int (iI 0), .int (iI 0), .int (iI 0), .null, .null, .null, .null, .null, .null, .null, .int (iI 0), .int (iI 0), .null, .null])
def qh173 : qH := [qc58, qc78, qc92, qc10, qc7, qc9, qc21, qc13, qc15, qc17, qc17, qc17, qc17, qc24, qc9, qc29, qc27, qc17, qc103, qc35, qc34, qc9, qc42, qc48, qc40, qc40, qc43, qc9, qc45, qc9, qc47, qc9, qc54, qc51, qc9, qc53, qc13, qc15, qc62, qc60, qc65, qc60, qc68, qc60, qc71, qc60, qc74, qc60, qc77, qc60, qc82, qc80, qc85, qc80, qc88, qc80, qc91, qc80, qc96, qc27, qc17, qc100, qc27, qc17, qc104, qc27, qc17, qc120, qc13, qc17, qc17, qc17, qc17, qc9, qc112, qc15, qc15, qc117, qc17, qc117]
def qh174 : qH := [qc58, qc78, qc92, qc10, qc7, qc9, qc21, qc13, qc15, qc17, qc17, qc17, qc17, qc24, qc9, qc29, qc27, qc17, qc103, qc35, qc34, qc9, qc42, qc48, qc40, qc40, qc43, qc9, qc45, qc9, qc47, qc9, qc54, qc51, qc9, qc53, qc13, qc15, qc62, qc60, qc65, qc60, qc68, qc60, qc71, qc60, qc74, qc60, qc77, qc60, qc82, qc80, qc85, qc80, qc88, qc80, qc91, qc80, qc96, qc27, qc17, qc100, qc27, qc17, qc104, qc27, qc17, qc120, qc13, qc17, qc17, qc17, qc17, qc9, qc112, qc15, qc15, qc117, qc17, qc117, qc40]
def qc121 : qE := .inr (10, [.int (iI 0), .int (iI 0), .ref 68, .ref 69, .ref 70, .ref 71, .ref 72, .ref 73, .int (iI 0), .ref 74, .int (iI 0), .long (iL 0), .long (iL 1), .int (iI 0), .ref 75, .ref 76, .ref 77, .ref 78, .ref 79, .ref 80, .null, .null, .null, .null, .int (iI 0), .int (iI 0), .int (iI 0), .int (iI 0), .null, .null, .null, .null, .null, .null, .null, .int (iI 0), .int (iI 0), .null, .null])
def qh175 : qH := [qc58, qc78, qc92, qc10, qc7, qc9, qc21, qc13, qc15, qc17, qc17, qc17, qc17, qc24, qc9, qc29, qc27, qc17, qc103, qc35, qc34, qc9, qc42, qc48, qc40, qc40, qc43, qc9, qc45, qc9, qc47, qc9, qc54, qc51, qc9, qc53, qc13, qc15, qc62, qc60, qc65, qc60, qc68, qc60, qc71, qc60, qc74, qc60, qc77, qc60, qc82, qc80, qc85, qc80, qc88, qc80, qc91, qc80, qc96, qc27, qc17, qc100, qc27, qc17, qc104, qc27, qc17, qc121, qc13, qc17, qc17, qc17, qc17, qc9, qc112, qc15, qc15, qc117, qc17, qc117, qc40]
def qc122 : qE := .inl (0, 48, .inl (fun _ => 0))
def qh176 : qH := [qc58, qc78, qc92, qc10, qc7, qc9, qc21, qc13, qc15, qc17, qc17, qc17, qc17, qc24, qc9, qc29, qc27, qc17, qc103, qc35, qc34, qc9, qc42, qc48, qc40, qc40, qc43, qc9, qc45, qc9, qc47, qc9, qc54, qc51, qc9, qc53, qc13, qc15, qc62, qc60, qc65, qc60, qc68, qc60, qc71, qc60, qc74, qc60, qc77, qc60, qc82, qc80, qc85, qc80, qc88, qc80, qc91, qc80, qc96, qc27, qc17, qc100, qc27, qc17, qc104, qc27, qc17, qc121, qc13, qc17, qc17, qc17, qc17, qc9, qc112, qc15, qc15, qc117, qc17, qc117, qc40, qc122]
def qc123 : qE := .inr (10, [.int (iI 0), .int (iI 0), .ref 68, .ref 69, .ref 70, .ref 71, .ref 72, .ref 73, .int (iI 0), .ref 74, .int (iI 0), .long (iL 0), .long (iL 1), .int (iI 0), .ref 75, .ref 76, .ref 77, .ref 78, .ref 79, .ref 80, .ref 81, .null, .null, .null, .int (iI 0), .int (iI 0), .int (iI 0), .int (iI 0), .null, .null, .null, .null, .null, .null, .null, .int (iI 0), .int (iI 0), .null, .null])
def qh177 : qH := [qc58, qc78, qc92, qc10, qc7, qc9, qc21, qc13, qc15, qc17, qc17, qc17, qc17, qc24, qc9, qc29, qc27, qc17, qc103, qc35, qc34, qc9, qc42, qc48, qc40, qc40, qc43, qc9, qc45, qc9, qc47, qc9, qc54, qc51, qc9, qc53, qc13, qc15, qc62, qc60, qc65, qc60, qc68, qc60, qc71, qc60, qc74, qc60, qc77, qc60, qc82, qc80, qc85, qc80, qc88, qc80, qc91, qc80, qc96, qc27, qc17, qc100, qc27, qc17, qc104, qc27, qc17, qc123, qc13, qc17, qc17, qc17, qc17, qc9, qc112, qc15, qc15, qc117, qc17, qc117, qc40, qc122]
def qc124 : qE := .inl (0, 2880, .inl (fun _ => 0))
def qh178 : qH := [qc58, qc78, qc92, qc10, qc7, qc9, qc21, qc13, qc15, qc17, qc17, qc17, qc17, qc24, qc9, qc29, qc27, qc17, qc103, qc35, qc34, qc9, qc42, qc48, qc40, qc40, qc43, qc9, qc45, qc9, qc47, qc9, qc54, qc51, qc9, qc53, qc13, qc15, qc62, qc60, qc65, qc60, qc68, qc60, qc71, qc60, qc74, qc60, qc77, qc60, qc82, qc80, qc85, qc80, qc88, qc80, qc91, qc80, qc96, qc27, qc17, qc100, qc27, qc17, qc104, qc27, qc17, qc123, qc13, qc17, qc17, qc17, qc17, qc9, qc112, qc15, qc15, qc117, qc17, qc117, qc40, qc122, qc124]
def qc125 : qE := .inr (10, [.int (iI 0), .int (iI 0), .ref 68, .ref 69, .ref 70, .ref 71, .ref 72, .ref 73, .int (iI 0), .ref 74, .int (iI 0), .long (iL 0), .long (iL 1), .int (iI 0), .ref 75, .ref 76, .ref 77, .ref 78, .ref 79, .ref 80, .ref 81, .ref 82, .null, .null, .int (iI 0), .int (iI 0), .int (iI 0), .int (iI 0), .null, .null, .null, .null, .null, .null, .null, .int (iI 0), .int (iI 0), .null, .null])
def qh179 : qH := [qc58, qc78, qc92, qc10, qc7, qc9, qc21, qc13, qc15, qc17, qc17, qc17, qc17, qc24, qc9, qc29, qc27, qc17, qc103, qc35, qc34, qc9, qc42, qc48, qc40, qc40, qc43, qc9, qc45, qc9, qc47, qc9, qc54, qc51, qc9, qc53, qc13, qc15, qc62, qc60, qc65, qc60, qc68, qc60, qc71, qc60, qc74, qc60, qc77, qc60, qc82, qc80, qc85, qc80, qc88, qc80, qc91, qc80, qc96, qc27, qc17, qc100, qc27, qc17, qc104, qc27, qc17, qc125, qc13, qc17, qc17, qc17, qc17, qc9, qc112, qc15, qc15, qc117, qc17, qc117, qc40, qc122, qc124]
def qc126 : qE := .inl (0, 12, .inl (fun _ => 0))
def qh180 : qH := [qc58, qc78, qc92, qc10, qc7, qc9, qc21, qc13, qc15, qc17, qc17, qc17, qc17, qc24, qc9, qc29, qc27, qc17, qc103, qc35, qc34, qc9, qc42, qc48, qc40, qc40, qc43, qc9, qc45, qc9, qc47, qc9, qc54, qc51, qc9, qc53, qc13, qc15, qc62, qc60, qc65, qc60, qc68, qc60, qc71, qc60, qc74, qc60, qc77, qc60, qc82, qc80, qc85, qc80, qc88, qc80, qc91, qc80, qc96, qc27, qc17, qc100, qc27, qc17, qc104, qc27, qc17, qc125, qc13, qc17, qc17, qc17, qc17, qc9, qc112, qc15, qc15, qc117, qc17, qc117, qc40, qc122, qc124, qc126]
def qc127 : qE := .inr (10, [.int (iI 0), .int (iI 0), .ref 68, .ref 69, .ref 70, .ref 71, .ref 72, .ref 73, .int (iI 0), .ref 74, .int (iI 0), .long (iL 0), .long (iL 1), .int (iI 0), .ref 75, .ref 76, .ref 77, .ref 78, .ref 79, .ref 80, .ref 81, .ref 82, .ref 83, .null, .int (iI 0), .int (iI 0), .int (iI 0), .int (iI 0), .null, .null, .null, .null, .null, .null, .null, .int (iI 0), .int (iI 0), .null, .null])
def qh181 : qH := [qc58, qc78, qc92, qc10, qc7, qc9, qc21, qc13, qc15, qc17, qc17, qc17, qc17, qc24, qc9, qc29, qc27, qc17, qc103, qc35, qc34, qc9, qc42, qc48, qc40, qc40, qc43, qc9, qc45, qc9, qc47, qc9, qc54, qc51, qc9, qc53, qc13, qc15, qc62, qc60, qc65, qc60, qc68, qc60, qc71, qc60, qc74, qc60, qc77, qc60, qc82, qc80, qc85, qc80, qc88, qc80, qc91, qc80, qc96, qc27, qc17, qc100, qc27, qc17, qc104, qc27, qc17, qc127, qc13, qc17, qc17, qc17, qc17, qc9, qc112, qc15, qc15, qc117, qc17, qc117, qc40, qc122, qc124, qc126]
def qh182 : qH := [qc58, qc78, qc92, qc10, qc7, qc9, qc21, qc13, qc15, qc17, qc17, qc17, qc17, qc24, qc9, qc29, qc27, qc17, qc103, qc35, qc34, qc9, qc42, qc48, qc40, qc40, qc43, qc9, qc45, qc9, qc47, qc9, qc54, qc51, qc9, qc53, qc13, qc15, qc62, qc60, qc65, qc60, qc68, qc60, qc71, qc60, qc74, qc60, qc77, qc60, qc82, qc80, qc85, qc80, qc88, qc80, qc91, qc80, qc96, qc27, qc17, qc100, qc27, qc17, qc104, qc27, qc17, qc127, qc13, qc17, qc17, qc17, qc17, qc9, qc112, qc15, qc15, qc117, qc17, qc117, qc40, qc122, qc124, qc126, qc60]
def qc128 : qE := .inr (10, [.int (iI 0), .int (iI 0), .ref 68, .ref 69, .ref 70, .ref 71, .ref 72, .ref 73, .int (iI 0), .ref 74, .int (iI 0), .long (iL 0), .long (iL 1), .int (iI 0), .ref 75, .ref 76, .ref 77, .ref 78, .ref 79, .ref 80, .ref 81, .ref 82, .ref 83, .ref 84, .int (iI 0), .int (iI 0), .int (iI 0), .int (iI 0), .null, .null, .null, .null, .null, .null, .null, .int (iI 0), .int (iI 0), .null, .null])
def qh183 : qH := [qc58, qc78, qc92, qc10, qc7, qc9, qc21, qc13, qc15, qc17, qc17, qc17, qc17, qc24, qc9, qc29, qc27, qc17, qc103, qc35, qc34, qc9, qc42, qc48, qc40, qc40, qc43, qc9, qc45, qc9, qc47, qc9, qc54, qc51, qc9, qc53, qc13, qc15, qc62, qc60, qc65, qc60, qc68, qc60, qc71, qc60, qc74, qc60, qc77, qc60, qc82, qc80, qc85, qc80, qc88, qc80, qc91, qc80, qc96, qc27, qc17, qc100, qc27, qc17, qc104, qc27, qc17, qc128, qc13, qc17, qc17, qc17, qc17, qc9, qc112, qc15, qc15, qc117, qc17, qc117, qc40, qc122, qc124, qc126, qc60]
def qh184 : qH := [qc58, qc78, qc92, qc10, qc7, qc9, qc21, qc13, qc15, qc17, qc17, qc17, qc17, qc24, qc9, qc29, qc27, qc17, qc103, qc35, qc34, qc9, qc42, qc48, qc40, qc40, qc43, qc9, qc45, qc9, qc47, qc9, qc54, qc51, qc9, qc53, qc13, qc15, qc62, qc60, qc65, qc60, qc68, qc60, qc71, qc60, qc74, qc60, qc77, qc60, qc82, qc80, qc85, qc80, qc88, qc80, qc91, qc80, qc96, qc27, qc17, qc100, qc27, qc17, qc104, qc27, qc17, qc128, qc13, qc17, qc17, qc17, qc17, qc9, qc112, qc15, qc15, qc117, qc17, qc117, qc40, qc122, qc124, qc126, qc60, qc13]
def qc129 : qE := .inr (10, [.int (iI 0), .int (iI 0), .ref 68, .ref 69, .ref 70, .ref 71, .ref 72, .ref 73, .int (iI 0), .ref 74, .int (iI 0), .long (iL 0), .long (iL 1), .int (iI 0), .ref 75, .ref 76, .ref 77, .ref 78, .ref 79, .ref 80, .ref 81, .ref 82, .ref 83, .ref 84, .int (iI 0), .int (iI 0), .int (iI 0), .int (iI 0), .ref 85, .null, .null, .null, .null, .null, .null, .int (iI 0), .int (iI 0), .null, .null])
def qh185 : qH := [qc58, qc78, qc92, qc10, qc7, qc9, qc21, qc13, qc15, qc17, qc17, qc17, qc17, qc24, qc9, qc29, qc27, qc17, qc103, qc35, qc34, qc9, qc42, qc48, qc40, qc40, qc43, qc9, qc45, qc9, qc47, qc9, qc54, qc51, qc9, qc53, qc13, qc15, qc62, qc60, qc65, qc60, qc68, qc60, qc71, qc60, qc74, qc60, qc77, qc60, qc82, qc80, qc85, qc80, qc88, qc80, qc91, qc80, qc96, qc27, qc17, qc100, qc27, qc17, qc104, qc27, qc17, qc129, qc13, qc17, qc17, qc17, qc17, qc9, qc112, qc15, qc15, qc117, qc17, qc117, qc40, qc122, qc124, qc126, qc60, qc13]
def qh186 : qH := [qc58, qc78, qc92, qc10, qc7, qc9, qc21, qc13, qc15, qc17, qc17, qc17, qc17, qc24, qc9, qc29, qc27, qc17, qc103, qc35, qc34, qc9, qc42, qc48, qc40, qc40, qc43, qc9, qc45, qc9, qc47, qc9, qc54, qc51, qc9, qc53, qc13, qc15, qc62, qc60, qc65, qc60, qc68, qc60, qc71, qc60, qc74, qc60, qc77, qc60, qc82, qc80, qc85, qc80, qc88, qc80, qc91, qc80, qc96, qc27, qc17, qc100, qc27, qc17, qc104, qc27, qc17, qc129, qc13, qc17, qc17, qc17, qc17, qc9, qc112, qc15, qc15, qc117, qc17, qc117, qc40, qc122, qc124, qc126, qc60, qc13, qc13]
def qc130 : qE := .inr (10, [.int (iI 0), .int (iI 0), .ref 68, .ref 69, .ref 70, .ref 71, .ref 72, .ref 73, .int (iI 0), .ref 74, .int (iI 0), .long (iL 0), .long (iL 1), .int (iI 0), .ref 75, .ref 76, .ref 77, .ref 78, .ref 79, .ref 80, .ref 81, .ref 82, .ref 83, .ref 84, .int (iI 0), .int (iI 0), .int (iI 0), .int (iI 0), .ref 85, .ref 86, .null, .null, .null, .null, .null, .int (iI 0), .int (iI 0), .null, .null])
def qh187 : qH := [qc58, qc78, qc92, qc10, qc7, qc9, qc21, qc13, qc15, qc17, qc17, qc17, qc17, qc24, qc9, qc29, qc27, qc17, qc103, qc35, qc34, qc9, qc42, qc48, qc40, qc40, qc43, qc9, qc45, qc9, qc47, qc9, qc54, qc51, qc9, qc53, qc13, qc15, qc62, qc60, qc65, qc60, qc68, qc60, qc71, qc60, qc74, qc60, qc77, qc60, qc82, qc80, qc85, qc80, qc88, qc80, qc91, qc80, qc96, qc27, qc17, qc100, qc27, qc17, qc104, qc27, qc17, qc130, qc13, qc17, qc17, qc17, qc17, qc9, qc112, qc15, qc15, qc117, qc17, qc117, qc40, qc122, qc124, qc126, qc60, qc13, qc13]
def qh188 : qH := [qc58, qc78, qc92, qc10, qc7, qc9, qc21, qc13, qc15, qc17, qc17, qc17, qc17, qc24, qc9, qc29, qc27, qc17, qc103, qc35, qc34, qc9, qc42, qc48, qc40, qc40, qc43, qc9, qc45, qc9, qc47, qc9, qc54, qc51, qc9, qc53, qc13, qc15, qc62, qc60, qc65, qc60, qc68, qc60, qc71, qc60, qc74, qc60, qc77, qc60, qc82, qc80, qc85, qc80, qc88, qc80, qc91, qc80, qc96, qc27, qc17, qc100, qc27, qc17, qc104, qc27, qc17, qc130, qc13, qc17, qc17, qc17, qc17, qc9, qc112, qc15, qc15, qc117, qc17, qc117, qc40, qc122, qc124, qc126, qc60, qc13, qc13, qc13]
def qc131 : qE := .inr (10, [.int (iI 0), .int (iI 0), .ref 68, .ref 69, .ref 70, .ref 71, .ref 72, .ref 73, .int (iI 0), .ref 74, .int (iI 0), .long (iL 0), .long (iL 1), .int (iI 0), .ref 75, .ref 76, .ref 77, .ref 78, .ref 79, .ref 80, .ref 81, .ref 82, .ref 83, .ref 84, .int (iI 0), .int (iI 0), .int (iI 0), .int (iI 0), .ref 85, .ref 86, .ref 87, .null, .null, .null, .null, .int (iI 0), .int (iI 0), .null, .null])
def qh189 : qH := [qc58, qc78, qc92, qc10, qc7, qc9, qc21, qc13, qc15, qc17, qc17, qc17, qc17, qc24, qc9, qc29, qc27, qc17, qc103, qc35, qc34, qc9, qc42, qc48, qc40, qc40, qc43, qc9, qc45, qc9, qc47, qc9, qc54, qc51, qc9, qc53, qc13, qc15, qc62, qc60, qc65, qc60, qc68, qc60, qc71, qc60, qc74, qc60, qc77, qc60, qc82, qc80, qc85, qc80, qc88, qc80, qc91, qc80, qc96, qc27, qc17, qc100, qc27, qc17, qc104, qc27, qc17, qc131, qc13, qc17, qc17, qc17, qc17, qc9, qc112, qc15, qc15, qc117, qc17, qc117, qc40, qc122, qc124, qc126, qc60, qc13, qc13, qc13]
def qh190 : qH := [qc58, qc78, qc92, qc10, qc7, qc9, qc21, qc13, qc15, qc17, qc17, qc17, qc17, qc24, qc9, qc29, qc27, qc17, qc103, qc35, qc34, qc9, qc42, qc48, qc40, qc40, qc43, qc9, qc45, qc9, qc47, qc9, qc54, qc51, qc9, qc53, qc13, qc15, qc62, qc60, qc65, qc60, qc68, qc60, qc71, qc60, qc74, qc60, qc77, qc60, qc82, qc80, qc85, qc80, qc88, qc80, qc91, qc80, qc96, qc27, qc17, qc100, qc27, qc17, qc104, qc27, qc17, qc131, qc13, qc17, qc17, qc17, qc17, qc9, qc112, qc15, qc15, qc117, qc17, qc117, qc40, qc122, qc124, qc126, qc60, qc13, qc13, qc13, qc17]
def qc132 : qE := .inr (10, [.int (iI 0), .int (iI 0), .ref 68, .ref 69, .ref 70, .ref 71, .ref 72, .ref 73, .int (iI 0), .ref 74, .int (iI 0), .long (iL 0), .long (iL 1), .int (iI 0), .ref 75, .ref 76, .ref 77, .ref 78, .ref 79, .ref 80, .ref 81, .ref 82, .ref 83, .ref 84, .int (iI 0), .int (iI 0), .int (iI 0), .int (iI 0), .ref 85, .ref 86, .ref 87, .ref 88, .null, .null, .null, .int (iI 0), .int (iI 0), .null, .null])
def qh191 : qH := [qc58, qc78, qc92, qc10, qc7, qc9, qc21, qc13, qc15, qc17, qc17, qc17, qc17, qc24, qc9, qc29, qc27, qc17, qc103, qc35, qc34, qc9, qc42, qc48, qc40, qc40, qc43, qc9, qc45, qc9, qc47, qc9, qc54, qc51, qc9, qc53, qc13, qc15, qc62, qc60, qc65, qc60, qc68, qc60, qc71, qc60, qc74, qc60, qc77, qc60, qc82, qc80, qc85, qc80, qc88, qc80, qc91, qc80, qc96, qc27, qc17, qc100, qc27, qc17, qc104, qc27, qc17, qc132, qc13, qc17, qc17, qc17, qc17, qc9, qc112, qc15, qc15, qc117, qc17, qc117, qc40, qc122, qc124, qc126, qc60, qc13, qc13, qc13, qc17]
def qh192 : qH := [qc58, qc78, qc92, qc10, qc7, qc9, qc21, qc13, qc15, qc17, qc17, qc17, qc17, qc24, qc9, qc29, qc27, qc17, qc103, qc35, qc34, qc9, qc42, qc48, qc40, qc40, qc43, qc9, qc45, qc9, qc47, qc9, qc54, qc51, qc9, qc53, qc13, qc15, qc62, qc60, qc65, qc60, qc68, qc60, qc71, qc60, qc74, qc60, qc77, qc60, qc82, qc80, qc85, qc80, qc88, qc80, qc91, qc80, qc96, qc27, qc17, qc100, qc27, qc17, qc104, qc27, qc17, qc132, qc13, qc17, qc17, qc17, qc17, qc9, qc112, qc15, qc15, qc117, qc17, qc117, qc40, qc122, qc124, qc126, qc60, qc13, qc13, qc13, qc17, qc17]
def qc133 : qE := .inr (10, [.int (iI 0), .int (iI 0), .ref 68, .ref 69, .ref 70, .ref 71, .ref 72, .ref 73, .int (iI 0), .ref 74, .int (iI 0), .long (iL 0), .long (iL 1), .int (iI 0), .ref 75, .ref 76, .ref 77, .ref 78, .ref 79, .ref 80, .ref 81, .ref 82, .ref 83, .ref 84, .int (iI 0), .int (iI 0), .int (iI 0), .int (iI 0), .ref 85, .ref 86, .ref 87, .ref 88, .ref 89, .null, .null, .int (iI 0), .int (iI 0), .null, .null])
def qh193 : qH := [qc58, qc78, qc92, qc10, qc7, qc9, qc21, qc13, qc15, qc17, qc17, qc17, qc17, qc24, qc9, qc29, qc27, qc17, qc103, qc35, qc34, qc9, qc42, qc48, qc40, qc40, qc43, qc9, qc45, qc9, qc47, qc9, qc54, qc51, qc9, qc53, qc13, qc15, qc62, qc60, qc65, qc60, qc68, qc60, qc71, qc60, qc74, qc60, qc77, qc60, qc82, qc80, qc85, qc80, qc88, qc80, qc91, qc80, qc96, qc27, qc17, qc100, qc27, qc17, qc104, qc27, qc17, qc133, qc13, qc17, qc17, qc17, qc17, qc9, qc112, qc15, qc15, qc117, qc17, qc117, qc40, qc122, qc124, qc126, qc60, qc13, qc13, qc13, qc17, qc17]
def qh194 : qH := [qc58, qc78, qc92, qc10, qc7, qc9, qc21, qc13, qc15, qc17, qc17, qc17, qc17, qc24, qc9, qc29, qc27, qc17, qc103, qc35, qc34, qc9, qc42, qc48, qc40, qc40, qc43, qc9, qc45, qc9, qc47, qc9, qc54, qc51, qc9, qc53, qc13, qc15, qc62, qc60, qc65, qc60, qc68, qc60, qc71, qc60, qc74, qc60, qc77, qc60, qc82, qc80, qc85, qc80, qc88, qc80, qc91, qc80, qc96, qc27, qc17, qc100, qc27, qc17, qc104, qc27, qc17, qc133, qc13, qc17, qc17, qc17, qc17, qc9, qc112, qc15, qc15, qc117, qc17, qc117, qc40, qc122, qc124, qc126, qc60, qc13, qc13, qc13, qc17, qc17, qc17]
def qc134 : qE := .inr (10, [.int (iI 0), .int (iI 0), .ref 68, .ref 69, .ref 70, .ref 71, .ref 72, .ref 73, .int (iI 0), .ref 74, .int (iI 0), .long (iL 0), .long (iL 1), .int (iI 0), .ref 75, .ref 76, .ref 77, .ref 78, .ref 79, .ref 80, .ref 81, .ref 82, .ref 83, .ref 84, .int (iI 0), .int (iI 0), .int (iI 0), .int (iI 0), .ref 85, .ref 86, .ref 87, .ref 88, .ref 89, .ref 90, .null, .int (iI 0), .int (iI 0), .null, .null])
def qh195 : qH := [qc58, qc78, qc92, qc10, qc7, qc9, qc21, qc13, qc15, qc17, qc17, qc17, qc17, qc24, qc9, qc29, qc27, qc17, qc103, qc35, qc34, qc9, qc42, qc48, qc40, qc40, qc43, qc9, qc45, qc9, qc47, qc9, qc54, qc51, qc9, qc53, qc13, qc15, qc62, qc60, qc65, qc60, qc68, qc60, qc71, qc60, qc74, qc60, qc77, qc60, qc82, qc80, qc85, qc80, qc88, qc80, qc91, qc80, qc96, qc27, qc17, qc100, qc27, qc17, qc104, qc27, qc17, qc134, qc13, qc17, qc17, qc17, qc17, qc9, qc112, qc15, qc15, qc117, qc17, qc117, qc40, qc122, qc124, qc126, qc60, qc13, qc13, qc13, qc17, qc17, qc17]
def qh196 : qH := [qc58, qc78, qc92, qc10, qc7, qc9, qc21, qc13, qc15, qc17, qc17, qc17, qc17, qc24, qc9, qc29, qc27, qc17, qc103, qc35, qc34, qc9, qc42, qc48, qc40, qc40, qc43, qc9, qc45, qc9, qc47, qc9, qc54, qc51, qc9, qc53, qc13, qc15, qc62, qc60, qc65, qc60, qc68, qc60, qc71, qc60, qc74, qc60, qc77, qc60, qc82, qc80, qc85, qc80, qc88, qc80, qc91, qc80, qc96, qc27, qc17, qc100, qc27, qc17, qc104, qc27, qc17, qc134, qc13, qc17, qc17, qc17, qc17, qc9, qc112, qc15, qc15, qc117, qc17, qc117, qc40, qc122, qc124, qc126, qc60, qc13, qc13, qc13, qc17, qc17, qc17, qc17]
def qc135 : qE := .inr (10, [.int (iI 0), .int (iI 0), .ref 68, .ref 69, .ref 70, .ref 71, .ref 72, .ref 73, .int (iI 0), .ref 74, .int (iI 0), .long (iL 0), .long (iL 1), .int (iI 0), .ref 75, .ref 76, .ref 77, .ref 78, .ref 79, .ref 80, .ref 81, .ref 82, .ref 83, .ref 84, .int (iI 0), .int (iI 0), .int (iI 0), .int (iI 0), .ref 85, .ref 86, .ref 87, .ref 88, .ref 89, .ref 90, .ref 91, .int (iI 0), .int (iI 0), .null, .null])
def qh197 : qH := [qc58, qc78, qc92, qc10, qc7, qc9, qc21, qc13, qc15, qc17, qc17, qc17, qc17, qc24, qc9, qc29, qc27, qc17, qc103, qc35, qc34, qc9, qc42, qc48, qc40, qc40, qc43, qc9, qc45, qc9, qc47, qc9, qc54, qc51, qc9, qc53, qc13, qc15, qc62, qc60, qc65, qc60, qc68, qc60, qc71, qc60, qc74, qc60, qc77, qc60, qc82, qc80, qc85, qc80, qc88, qc80, qc91, qc80, qc96, qc27, qc17, qc100, qc27, qc17, qc104, qc27, qc17, qc135, qc13, qc17, qc17, qc17, qc17, qc9, qc112, qc15, qc15, qc117, qc17, qc117, qc40, qc122, qc124, qc126, qc60, qc13, qc13, qc13, qc17, qc17, qc17, qc17]
def qh198 : qH := [qc58, qc78, qc92, qc10, qc7, qc9, qc21, qc13, qc15, qc17, qc17, qc17, qc17, qc24, qc9, qc29, qc27, qc17, qc103, qc35, qc34, qc9, qc42, qc48, qc40, qc40, qc43, qc9, qc45, qc9, qc47, qc9, qc54, qc51, qc9, qc53, qc13, qc15, qc62, qc60, qc65, qc60, qc68, qc60, qc71, qc60, qc74, qc60, qc77, qc60, qc82, qc80, qc85, qc80, qc88, qc80, qc91, qc80, qc96, qc27, qc17, qc100, qc27, qc17, qc104, qc27, qc17, qc135, qc13, qc17, qc17, qc17, qc17, qc9, qc112, qc15, qc15, qc117, qc17, qc117, qc40, qc122, qc124, qc126, qc60, qc13, qc13, qc13, qc17, qc17, qc17, qc17, qc9]
def qc136 : qE := .inr (10, [.int (iI 0), .int (iI 0), .ref 68, .ref 69, .ref 70, .ref 71, .ref 72, .ref 73, .int (iI 0), .ref 74, .int (iI 0), .long (iL 0), .long (iL 1), .int (iI 0), .ref 75, .ref 76, .ref 77, .ref 78, .ref 79, .ref 80, .ref 81, .ref 82, .ref 83, .ref 84, .int (iI 0), .int (iI 0), .int (iI 0), .int (iI 0), .ref 85, .ref 86, .ref 87, .ref 88, .ref 89, .ref 90, .ref 91, .int (iI 0), .int (iI 0), .ref 92, .null])
def qh199 : qH := [qc58, qc78, qc92, qc10, qc7, qc9, qc21, qc13, qc15, qc17, qc17, qc17, qc17, qc24, qc9, qc29, qc27, qc17, qc103, qc35, qc34, qc9, qc42, qc48, qc40, qc40, qc43, qc9, qc45, qc9, qc47, qc9, qc54, qc51, qc9, qc53, qc13, qc15, qc62, qc60, qc65, qc60, qc68, qc60, qc71, qc60, qc74, qc60, qc77, qc60, qc82, qc80, qc85, qc80, qc88, qc80, qc91, qc80, qc96, qc27, qc17, qc100, qc27, qc17, qc104, qc27, qc17, qc136, qc13, qc17, qc17, qc17, qc17, qc9, qc112, qc15, qc15, qc117, qc17, qc117, qc40, qc122, qc124, qc126, qc60, qc13, qc13, qc13, qc17, qc17, qc17, qc17, qc9]
def qh200 : qH := [qc58, qc78, qc92, qc10, qc7, qc9, qc21, qc13, qc15, qc17, qc17, qc17, qc17, qc24, qc9, qc29, qc27, qc17, qc103, qc35, qc34, qc9, qc42, qc48, qc40, qc40, qc43, qc9, qc45, qc9, qc47, qc9, qc54, qc51, qc9, qc53, qc13, qc15, qc62, qc60, qc65, qc60, qc68, qc60, qc71, qc60, qc74, qc60, qc77, qc60, qc82, qc80, qc85, qc80, qc88, qc80, qc91, qc80, qc96, qc27, qc17, qc100, qc27, qc17, qc104, qc27, qc17, qc136, qc13, qc17, qc17, qc17, qc17, qc9, qc112, qc15, qc15, qc117, qc17, qc117, qc40, qc122, qc124, qc126, qc60, qc13, qc13, qc13, qc17, qc17, qc17, qc17, qc9, qc53]
def qc137 : qE := .inr (10, [.int (iI 0), .int (iI 0), .ref 68, .ref 69, .ref 70, .ref 71, .ref 72, .ref 73, .int (iI 0), .ref 74, .int (iI 0), .long (iL 0), .long (iL 1), .int (iI 0), .ref 75, .ref 76, .ref 77, .ref 78, .ref 79, .ref 80, .ref 81, .ref 82, .ref 83, .ref 84, .int (iI 0), .int (iI 0), .int (iI 0), .int (iI 0), .ref 85, .ref 86, .ref 87, .ref 88, .ref 89, .ref 90, .ref 91, .int (iI 0), .int (iI 0), .ref 92, .ref 93])
def qh201 : qH := [qc58, qc78, qc92, qc10, qc7, qc9, qc21, qc13, qc15, qc17, qc17, qc17, qc17, qc24, qc9, qc29, qc27, qc17, qc103, qc35, qc34, qc9, qc42, qc48, qc40, qc40, qc43, qc9, qc45, qc9, qc47, qc9, qc54, qc51, qc9, qc53, qc13, qc15, qc62, qc60, qc65, qc60, qc68, qc60, qc71, qc60, qc74, qc60, qc77, qc60, qc82, qc80, qc85, qc80, qc88, qc80, qc91, qc80, qc96, qc27, qc17, qc100, qc27, qc17, qc104, qc27, qc17, qc137, qc13, qc17, qc17, qc17, qc17, qc9, qc112, qc15, qc15, qc117, qc17, qc117, qc40, qc122, qc124, qc126, qc60, qc13, qc13, qc13, qc17, qc17, qc17, qc17, qc9, qc53]
def qc138 : qE := .inl (0, 6, .inl (upd (fun _ => 0) 0 (iI (-1))))
def qh202 : qH := [qc58, qc78, qc92, qc10, qc7, qc9, qc21, qc13, qc15, qc17, qc17, qc17, qc17, qc24, qc9, qc29, qc27, qc17, qc103, qc35, qc34, qc9, qc42, qc48, qc40, qc40, qc43, qc9, qc45, qc9, qc47, qc9, qc54, qc51, qc9, qc53, qc13, qc15, qc62, qc60, qc65, qc60, qc68, qc60, qc71, qc60, qc74, qc60, qc77, qc60, qc82, qc80, qc85, qc80, qc88, qc80, qc91, qc80, qc96, qc27, qc17, qc100, qc27, qc17, qc104, qc27, qc17, qc137, qc13, qc17, qc17, qc17, qc17, qc9, qc112, qc15, qc138, qc117, qc17, qc117, qc40, qc122, qc124, qc126, qc60, qc13, qc13, qc13, qc17, qc17, qc17, qc17, qc9, qc53]
def qc139 : qE := .inl (0, 6, .inl (upd (upd (fun _ => 0) 0 (iI (-1))) 1 (iI (-1))))
def qh203 : qH := [qc58, qc78, qc92, qc10, qc7, qc9, qc21, qc13, qc15, qc17, qc17, qc17, qc17, qc24, qc9, qc29, qc27, qc17, qc103, qc35, qc34, qc9, qc42, qc48, qc40, qc40, qc43, qc9, qc45, qc9, qc47, qc9, qc54, qc51, qc9, qc53, qc13, qc15, qc62, qc60, qc65, qc60, qc68, qc60, qc71, qc60, qc74, qc60, qc77, qc60, qc82, qc80, qc85, qc80, qc88, qc80, qc91, qc80, qc96, qc27, qc17, qc100, qc27, qc17, qc104, qc27, qc17, qc137, qc13, qc17, qc17, qc17, qc17, qc9, qc112, qc15, qc139, qc117, qc17, qc117, qc40, qc122, qc124, qc126, qc60, qc13, qc13, qc13, qc17, qc17, qc17, qc17, qc9, qc53]
def qc140 : qE := .inl (0, 6, .inl (upd (upd (upd (fun _ => 0) 0 (iI (-1))) 1 (iI (-1))) 2 (iI (-1))))
def qh204 : qH := [qc58, qc78, qc92, qc10, qc7, qc9, qc21, qc13, qc15, qc17, qc17, qc17, qc17, qc24, qc9, qc29, qc27, qc17, qc103, qc35, qc34, qc9, qc42, qc48, qc40, qc40, qc43, qc9, qc45, qc9, qc47, qc9, qc54, qc51, qc9, qc53, qc13, qc15, qc62, qc60, qc65, qc60, qc68, qc60, qc71, qc60, qc74, qc60, qc77, qc60, qc82, qc80, qc85, qc80, qc88, qc80, qc91, qc80, qc96, qc27, qc17, qc100, qc27, qc17, qc104, qc27, qc17, qc137, qc13, qc17, qc17, qc17, qc17, qc9, qc112, qc15, qc140, qc117, qc17, qc117, qc40, qc122, qc124, qc126, qc60, qc13, qc13, qc13, qc17, qc17, qc17, qc17, qc9, qc53]
def qc141 : qE := .inl (0, 6, .inl (upd (upd (upd (upd (fun _ => 0) 0 (iI (-1))) 1 (iI (-1))) 2 (iI (-1))) 3 (iI (-1))))
def qh205 : qH := [qc58, qc78, qc92, qc10, qc7, qc9, qc21, qc13, qc15, qc17, qc17, qc17, qc17, qc24, qc9, qc29, qc27, qc17, qc103, qc35, qc34, qc9, qc42, qc48, qc40, qc40, qc43, qc9, qc45, qc9, qc47, qc9, qc54, qc51, qc9, qc53, qc13, qc15, qc62, qc60, qc65, qc60, qc68, qc60, qc71, qc60, qc74, qc60, qc77, qc60, qc82, qc80, qc85, qc80, qc88, qc80, qc91, qc80, qc96, qc27, qc17, qc100, qc27, qc17, qc104, qc27, qc17, qc137, qc13, qc17, qc17, qc17, qc17, qc9, qc112, qc15, qc141, qc117, qc17, qc117, qc40, qc122, qc124, qc126, qc60, qc13, qc13, qc13, qc17, qc17, qc17, qc17, qc9, qc53]
def qc142 : qE := .inl (0, 6, .inl (upd (upd (upd (upd (upd (fun _ => 0) 0 (iI (-1))) 1 (iI (-1))) 2 (iI (-1))) 3 (iI (-1))) 4 (iI (-1))))
def qh206 : qH := [qc58, qc78, qc92, qc10, qc7, qc9, qc21, qc13, qc15, qc17, qc17, qc17, qc17, qc24, qc9, qc29, qc27, qc17, qc103, qc35, qc34, qc9, qc42, qc48, qc40, qc40, qc43, qc9, qc45, qc9, qc47, qc9, qc54, qc51, qc9, qc53, qc13, qc15, qc62, qc60, qc65, qc60, qc68, qc60, qc71, qc60, qc74, qc60, qc77, qc60, qc82, qc80, qc85, qc80, qc88, qc80, qc91, qc80, qc96, qc27, qc17, qc100, qc27, qc17, qc104, qc27, qc17, qc137, qc13, qc17, qc17, qc17, qc17, qc9, qc112, qc15, qc142, qc117, qc17, qc117, qc40, qc122, qc124, qc126, qc60, qc13, qc13, qc13, qc17, qc17, qc17, qc17, qc9, qc53]
def qc143 : qE := .inl (0, 6, .inl (upd (upd (upd (upd (upd (upd (fun _ => 0) 0 (iI (-1))) 1 (iI (-1))) 2 (iI (-1))) 3 (iI (-1))) 4 (iI (-1))) 5 (iI (-1))))
def qh207 : qH := [qc58, qc78, qc92, qc10, qc7, qc9, qc21, qc13, qc15, qc17, qc17, qc17, qc17, qc24, qc9, qc29, qc27, qc17, qc103, qc35, qc34, qc9, qc42, qc48, qc40, qc40, qc43, qc9, qc45, qc9, qc47, qc9, qc54, qc51, qc9, qc53, qc13, qc15, qc62, qc60, qc65, qc60, qc68, qc60, qc71, qc60, qc74, qc60, qc77, qc60, qc82, qc80, qc85, qc80, qc88, qc80, qc91, qc80, qc96, qc27, qc17, qc100, qc27, qc17, qc104, qc27, qc17, qc137, qc13, qc17, qc17, qc17, qc17, qc9, qc112, qc15, qc143, qc117, qc17, qc117, qc40, qc122, qc124, qc126, qc60, qc13, qc13, qc13, qc17, qc17, qc17, qc17, qc9, qc53]
def qc144 : qE := .inl (0, 4, .inl (upd (fun _ => 0) 0 (iI (-1))))
def qh208 : qH := [qc58, qc78, qc92, qc10, qc7, qc9, qc21, qc13, qc15, qc17, qc17, qc17, qc17, qc24, qc9, qc29, qc27, qc17, qc103, qc35, qc34, qc9, qc42, qc48, qc40, qc40, qc43, qc9, qc45, qc9, qc47, qc9, qc54, qc51, qc9, qc53, qc13, qc15, qc62, qc60, qc65, qc60, qc68, qc60, qc71, qc60, qc74, qc60, qc77, qc60, qc82, qc80, qc85, qc80, qc88, qc80, qc91, qc80, qc96, qc27, qc17, qc100, qc27, qc17, qc104, qc27, qc17, qc137, qc13, qc17, qc17, qc17, qc17, qc9, qc112, qc15, qc143, qc117, qc144, qc117, qc40, qc122, qc124, qc126, qc60, qc13, qc13, qc13, qc17, qc17, qc17, qc17, qc9, qc53]
def qc145 : qE := .inl (0, 4, .inl (upd (upd (fun _ => 0) 0 (iI (-1))) 1 (iI (-1))))
def qh209 : qH := [qc58, qc78, qc92, qc10, qc7, qc9, qc21, qc13, qc15, qc17, qc17, qc17, qc17, qc24, qc9, qc29, qc27, qc17, qc103, qc35, qc34, qc9, qc42, qc48, qc40, qc40, qc43, qc9, qc45, qc9, qc47, qc9, qc54, qc51, qc9, qc53, qc13, qc15, qc62, qc60, qc65, qc60, qc68, qc60, qc71, qc60, qc74, qc60, qc77, qc60, qc82, qc80, qc85, qc80, qc88, qc80, qc91, qc80, qc96, qc27, qc17, qc100, qc27, qc17, qc104, qc27, qc17, qc137, qc13, qc17, qc17, qc17, qc17, qc9, qc112, qc15, qc143, qc117, qc145, qc117, qc40, qc122, qc124, qc126, qc60, qc13, qc13, qc13, qc17, qc17, qc17, qc17, qc9, qc53]
def qc146 : qE := .inl (0, 4, .inl (upd (upd (upd (fun _ => 0) 0 (iI (-1))) 1 (iI (-1))) 2 (iI (-1))))
def qh210 : qH := [qc58, qc78, qc92, qc10, qc7, qc9, qc21, qc13, qc15, qc17, qc17, qc17, qc17, qc24, qc9, qc29, qc27, qc17, qc103, qc35, qc34, qc9, qc42, qc48, qc40, qc40, qc43, qc9, qc45, qc9, qc47, qc9, qc54, qc51, qc9, qc53, qc13, qc15, qc62, qc60, qc65, qc60, qc68, qc60, qc71, qc60, qc74, qc60, qc77, qc60, qc82, qc80, qc85, qc80, qc88, qc80, qc91, qc80, qc96, qc27, qc17, qc100, qc27, qc17, qc104, qc27, qc17, qc137, qc13, qc17, qc17, qc17, qc17, qc9, qc112, qc15, qc143, qc117, qc146, qc117, qc40, qc122, qc124, qc126, qc60, qc13, qc13, qc13, qc17, qc17, qc17, qc17, qc9, qc53]
def qc147 : qE := .inl (0, 4, .inl (upd (upd (upd (upd (fun _ => 0) 0 (iI (-1))) 1 (iI (-1))) 2 (iI (-1))) 3 (iI (-1))))
def qh211 : qH := [qc58, qc78, qc92, qc10, qc7, qc9, qc21, qc13, qc15, qc17, qc17, qc17, qc17, qc24, qc9, qc29, qc27, qc17, qc103, qc35, qc34, qc9, qc42, qc48, qc40, qc40, qc43, qc9, qc45, qc9, qc47, qc9, qc54, qc51, qc9, qc53, qc13, qc15, qc62, qc60, qc65, qc60, qc68, qc60, qc71, qc60, qc74, qc60, qc77, qc60, qc82, qc80, qc85, qc80, qc88, qc80, qc91, qc80, qc96, qc27, qc17, qc100, qc27, qc17, qc104, qc27, qc17, qc137, qc13, qc17, qc17, qc17, qc17, qc9, qc112, qc15, qc143, qc117, qc147, qc117, qc40, qc122, qc124, qc126, qc60, qc13, qc13, qc13, qc17, qc17, qc17, qc17, qc9, qc53]
def qc148 : qE := .inl (0, 3, .inl (upd (fun _ => 0) 0 (iI (-1))))
def qh212 : qH := [qc58, qc78, qc92, qc10, qc7, qc9, qc21, qc13, qc15, qc17, qc17, qc17, qc17, qc24, qc9, qc29, qc27, qc17, qc103, qc35, qc34, qc9, qc42, qc48, qc40, qc40, qc43, qc9, qc45, qc9, qc47, qc9, qc54, qc51, qc9, qc53, qc13, qc15, qc62, qc60, qc65, qc60, qc68, qc60, qc71, qc60, qc74, qc60, qc77, qc60, qc82, qc80, qc85, qc80, qc88, qc80, qc91, qc80, qc96, qc27, qc17, qc100, qc27, qc17, qc104, qc27, qc17, qc137, qc13, qc17, qc17, qc17, qc17, qc9, qc112, qc15, qc143, qc117, qc147, qc117, qc148, qc122, qc124, qc126, qc60, qc13, qc13, qc13, qc17, qc17, qc17, qc17, qc9, qc53]
def qc149 : qE := .inl (0, 3, .inl (upd (upd (fun _ => 0) 0 (iI (-1))) 1 (iI (-1))))
def qh213 : qH := [qc58, qc78, qc92, qc10, qc7, qc9, qc21, qc13, qc15, qc17, qc17, qc17, qc17, qc24, qc9, qc29, qc27, qc17, qc103, qc35, qc34, qc9, qc42, qc48, qc40, qc40, qc43, qc9, qc45, qc9, qc47, qc9, qc54, qc51, qc9, qc53, qc13, qc15, qc62, qc60, qc65, qc60, qc68, qc60, qc71, qc60, qc74, qc60, qc77, qc60, qc82, qc80, qc85, qc80, qc88, qc80, qc91, qc80, qc96, qc27, qc17, qc100, qc27, qc17, qc104, qc27, qc17, qc137, qc13, qc17, qc17, qc17, qc17, qc9, qc112, qc15, qc143, qc117, qc147, qc117, qc149, qc122, qc124, qc126, qc60, qc13, qc13, qc13, qc17, qc17, qc17, qc17, qc9, qc53]
def qc150 : qE := .inl (0, 3, .inl (upd (upd (upd (fun _ => 0) 0 (iI (-1))) 1 (iI (-1))) 2 (iI (-1))))
def qh214 : qH := [qc58, qc78, qc92, qc10, qc7, qc9, qc21, qc13, qc15, qc17, qc17, qc17, qc17, qc24, qc9, qc29, qc27, qc17, qc103, qc35, qc34, qc9, qc42, qc48, qc40, qc40, qc43, qc9, qc45, qc9, qc47, qc9, qc54, qc51, qc9, qc53, qc13, qc15, qc62, qc60, qc65, qc60, qc68, qc60, qc71, qc60, qc74, qc60, qc77, qc60, qc82, qc80, qc85, qc80, qc88, qc80, qc91, qc80, qc96, qc27, qc17, qc100, qc27, qc17, qc104, qc27, qc17, qc137, qc13, qc17, qc17, qc17, qc17, qc9, qc112, qc15, qc143, qc117, qc147, qc117, qc150, qc122, qc124, qc126, qc60, qc13, qc13, qc13, qc17, qc17, qc17, qc17, qc9, qc53]
set_option maxRecDepth 40000 in
theorem ct_X10_init_67 {l : Launch} {G : qG} : qM l G 1 yX10_init cX10_init 2 none [.ref 67] qh148 (some (none, qh214)) := by
  refine qM_of (L := [some (.ref 67), none]) (by decide +kernel) (Nat.le_of_ble_eq_true rfl) rfl ?_
  refine J_aload_n (pc := 0) dX10_init_0 rfl rfl rfl ?_
  refine J_objInit (pc := 1) (by decide) lm_X10_1 (Nat.le_of_ble_eq_true rfl) dX10_init_1 ?_
  refine J_aload_n (pc := 4) dX10_init_4 rfl rfl rfl ?_
  refine J_iconst (pc := 5) dX10_init_5 ?_
  refine J_newarray (pc := 6) (t := 0) (N := 5) (ty := .int) (by decide) rfl ac_int (fun _ => rfl) rfl (fun _ _ h => h) dX10_init_6 (by decide +kernel) (by decide) ?_
  show qJ _ _ _ _ _ _ _ _ _ _ qh149 _
  refine J_putfinal (pc := 8) (ci := 10) (k := 2) rfl inX10 (by decide) lf_X10_7 tyX10 tyX10_ok nmX10 rfl rfl rfl dX10_init_8 rfl (by decide) rfl rfl ?_
  show qJ _ _ _ _ _ _ _ _ _ _ qh150 _
  refine J_aload_n (pc := 11) dX10_init_11 rfl rfl rfl ?_
  refine J_iconst (pc := 12) dX10_init_12 ?_
  refine J_newarray (pc := 13) (t := 0) (N := 4) (ty := .int) (by decide) rfl ac_int (fun _ => rfl) rfl (fun _ _ h => h) dX10_init_13 (by decide +kernel) (by decide) ?_
  show qJ _ _ _ _ _ _ _ _ _ _ qh151 _
  refine J_putfinal (pc := 15) (ci := 10) (k := 3) rfl inX10 (by decide) lf_X10_13 tyX10 tyX10_ok nmX10 rfl rfl rfl dX10_init_15 rfl (by decide) rfl rfl ?_
  show qJ _ _ _ _ _ _ _ _ _ _ qh152 _
  refine J_aload_n (pc := 18) dX10_init_18 rfl rfl rfl ?_
  refine J_iconst (pc := 19) dX10_init_19 ?_
  refine J_newarray (pc := 20) (t := 0) (N := 4) (ty := .int) (by decide) rfl ac_int (fun _ => rfl) rfl (fun _ _ h => h) dX10_init_20 (by decide +kernel) (by decide) ?_
  show qJ _ _ _ _ _ _ _ _ _ _ qh153 _
  refine J_putfinal (pc := 22) (ci := 10) (k := 4) rfl inX10 (by decide) lf_X10_16 tyX10 tyX10_ok nmX10 rfl rfl rfl dX10_init_22 rfl (by decide) rfl rfl ?_
  show qJ _ _ _ _ _ _ _ _ _ _ qh154 _
  refine J_aload_n (pc := 25) dX10_init_25 rfl rfl rfl ?_
  refine J_iconst (pc := 26) dX10_init_26 ?_
  refine J_newarray (pc := 27) (t := 0) (N := 4) (ty := .int) (by decide) rfl ac_int (fun _ => rfl) rfl (fun _ _ h => h) dX10_init_27 (by decide +kernel) (by decide) ?_
  show qJ _ _ _ _ _ _ _ _ _ _ qh155 _
  refine J_putfinal (pc := 29) (ci := 10) (k := 5) rfl inX10 (by decide) lf_X10_19 tyX10 tyX10_ok nmX10 rfl rfl rfl dX10_init_29 rfl (by decide) rfl rfl ?_
  show qJ _ _ _ _ _ _ _ _ _ _ qh156 _
  refine J_aload_n (pc := 32) dX10_init_32 rfl rfl rfl ?_
  refine J_iconst (pc := 33) dX10_init_33 ?_
  refine J_newarray (pc := 34) (t := 0) (N := 4) (ty := .int) (by decide) rfl ac_int (fun _ => rfl) rfl (fun _ _ h => h) dX10_init_34 (by decide +kernel) (by decide) ?_
  show qJ _ _ _ _ _ _ _ _ _ _ qh157 _
  refine J_putfinal (pc := 36) (ci := 10) (k := 6) rfl inX10 (by decide) lf_X10_22 tyX10 tyX10_ok nmX10 rfl rfl rfl dX10_init_36 rfl (by decide) rfl rfl ?_
  show qJ _ _ _ _ _ _ _ _ _ _ qh158 _
  refine J_aload_n (pc := 39) dX10_init_39 rfl rfl rfl ?_
  refine J_bipush (pc := 40) dX10_init_40 (by decide) (by decide) ?_
  refine J_newarray (pc := 42) (t := 0) (N := 16) (ty := .int) (by decide) rfl ac_int (fun _ => rfl) rfl (fun _ _ h => h) dX10_init_42 (by decide +kernel) (by decide) ?_
  show qJ _ _ _ _ _ _ _ _ _ _ qh159 _
  refine J_putfinal (pc := 44) (ci := 10) (k := 7) rfl inX10 (by decide) lf_X10_25 tyX10 tyX10_ok nmX10 rfl rfl rfl dX10_init_44 rfl (by decide) rfl rfl ?_
  show qJ _ _ _ _ _ _ _ _ _ _ qh160 _
  refine J_aload_n (pc := 47) dX10_init_47 rfl rfl rfl ?_
  refine J_sipush (pc := 48) dX10_init_48 (by decide) (by decide) ?_
  refine J_newarray (pc := 51) (t := 0) (N := 960) (ty := .int) (by decide) rfl ac_int (fun _ => rfl) rfl (fun _ _ h => h) dX10_init_51 (by decide +kernel) (by decide) ?_
  show qJ _ _ _ _ _ _ _ _ _ _ qh161 _
  refine J_putfinal (pc := 53) (ci := 10) (k := 9) rfl inX10 (by decide) lf_X10_28 tyX10 tyX10_ok nmX10 rfl rfl rfl dX10_init_53 rfl (by decide) rfl rfl ?_
  show qJ _ _ _ _ _ _ _ _ _ _ qh162 _
  refine J_aload_n (pc := 56) dX10_init_56 rfl rfl rfl ?_
  refine J_lconst (pc := 57) (z := 1) dX10_init_57 (by decide) ?_
  refine J_putfield (pc := 58) (ci := 10) (k := 12) rfl inX10 (by decide) lf_X10_31 tyX10 tyX10_ok nmX10 rfl dX10_init_58 rfl (by decide) rfl rfl ?_
  show qJ _ _ _ _ _ _ _ _ _ _ qh163 _
  refine J_aload_n (pc := 61) dX10_init_61 rfl rfl rfl ?_
  refine J_bipush (pc := 62) dX10_init_62 (by decide) (by decide) ?_
  refine J_newarray (pc := 64) (t := 0) (N := 6) (ty := .int) (by decide) rfl ac_int (fun _ => rfl) rfl (fun _ _ h => h) dX10_init_64 (by decide +kernel) (by decide) ?_
  show qJ _ _ _ _ _ _ _ _ _ _ qh164 _
  refine J_putfinal (pc := 66) (ci := 10) (k := 14) rfl inX10 (by decide) lf_X10_35 tyX10 tyX10_ok nmX10 rfl rfl rfl dX10_init_66 rfl (by decide) rfl rfl ?_
  show qJ _ _ _ _ _ _ _ _ _ _ qh165 _
  refine J_aload_n (pc := 69) dX10_init_69 rfl rfl rfl ?_
  refine J_bipush (pc := 70) dX10_init_70 (by decide) (by decide) ?_
  refine J_newarray (pc := 72) (t := 0) (N := 6) (ty := .int) (by decide) rfl ac_int (fun _ => rfl) rfl (fun _ _ h => h) dX10_init_72 (by decide +kernel) (by decide) ?_
  show qJ _ _ _ _ _ _ _ _ _ _ qh166 _
  refine J_putfinal (pc := 74) (ci := 10) (k := 15) rfl inX10 (by decide) lf_X10_38 tyX10 tyX10_ok nmX10 rfl rfl rfl dX10_init_74 rfl (by decide) rfl rfl ?_
  show qJ _ _ _ _ _ _ _ _ _ _ qh167 _
  refine J_aload_n (pc := 77) dX10_init_77 rfl rfl rfl ?_
  refine J_sipush (pc := 78) dX10_init_78 (by decide) (by decide) ?_
  refine J_newarray (pc := 81) (t := 0) (N := 240) (ty := .int) (by decide) rfl ac_int (fun _ => rfl) rfl (fun _ _ h => h) dX10_init_81 (by decide +kernel) (by decide) ?_
  show qJ _ _ _ _ _ _ _ _ _ _ qh168 _
  refine J_putfinal (pc := 83) (ci := 10) (k := 16) rfl inX10 (by decide) lf_X10_41 tyX10 tyX10_ok nmX10 rfl rfl rfl dX10_init_83 rfl (by decide) rfl rfl ?_
  show qJ _ _ _ _ _ _ _ _ _ _ qh169 _
  refine J_aload_n (pc := 86) dX10_init_86 rfl rfl rfl ?_
  refine J_iconst (pc := 87) dX10_init_87 ?_
  refine J_newarray (pc := 88) (t := 0) (N := 4) (ty := .int) (by decide) rfl ac_int (fun _ => rfl) rfl (fun _ _ h => h) dX10_init_88 (by decide +kernel) (by decide) ?_
  show qJ _ _ _ _ _ _ _ _ _ _ qh170 _
  refine J_putfinal (pc := 90) (ci := 10) (k := 17) rfl inX10 (by decide) lf_X10_44 tyX10 tyX10_ok nmX10 rfl rfl rfl dX10_init_90 rfl (by decide) rfl rfl ?_
  show qJ _ _ _ _ _ _ _ _ _ _ qh171 _
  refine J_aload_n (pc := 93) dX10_init_93 rfl rfl rfl ?_
  refine J_sipush (pc := 94) dX10_init_94 (by decide) (by decide) ?_
  refine J_newarray (pc := 97) (t := 0) (N := 240) (ty := .int) (by decide) rfl ac_int (fun _ => rfl) rfl (fun _ _ h => h) dX10_init_97 (by decide +kernel) (by decide) ?_
  show qJ _ _ _ _ _ _ _ _ _ _ qh172 _
  refine J_putfinal (pc := 99) (ci := 10) (k := 18) rfl inX10 (by decide) lf_X10_47 tyX10 tyX10_ok nmX10 rfl rfl rfl dX10_init_99 rfl (by decide) rfl rfl ?_
  show qJ _ _ _ _ _ _ _ _ _ _ qh173 _
  refine J_aload_n (pc := 102) dX10_init_102 rfl rfl rfl ?_
  refine J_iconst (pc := 103) dX10_init_103 ?_
  refine J_newarray (pc := 104) (t := 0) (N := 3) (ty := .int) (by decide) rfl ac_int (fun _ => rfl) rfl (fun _ _ h => h) dX10_init_104 (by decide +kernel) (by decide) ?_
  show qJ _ _ _ _ _ _ _ _ _ _ qh174 _
  refine J_putfinal (pc := 106) (ci := 10) (k := 19) rfl inX10 (by decide) lf_X10_50 tyX10 tyX10_ok nmX10 rfl rfl rfl dX10_init_106 rfl (by decide) rfl rfl ?_
  show qJ _ _ _ _ _ _ _ _ _ _ qh175 _
  refine J_aload_n (pc := 109) dX10_init_109 rfl rfl rfl ?_
  refine J_bipush (pc := 110) dX10_init_110 (by decide) (by decide) ?_
  refine J_newarray (pc := 112) (t := 0) (N := 48) (ty := .int) (by decide) rfl ac_int (fun _ => rfl) rfl (fun _ _ h => h) dX10_init_112 (by decide +kernel) (by decide) ?_
  show qJ _ _ _ _ _ _ _ _ _ _ qh176 _
  refine J_putfinal (pc := 114) (ci := 10) (k := 20) rfl inX10 (by decide) lf_X10_53 tyX10 tyX10_ok nmX10 rfl rfl rfl dX10_init_114 rfl (by decide) rfl rfl ?_
  show qJ _ _ _ _ _ _ _ _ _ _ qh177 _
  refine J_aload_n (pc := 117) dX10_init_117 rfl rfl rfl ?_
  refine J_sipush (pc := 118) dX10_init_118 (by decide) (by decide) ?_
  refine J_newarray (pc := 121) (t := 0) (N := 2880) (ty := .int) (by decide) rfl ac_int (fun _ => rfl) rfl (fun _ _ h => h) dX10_init_121 (by decide +kernel) (by decide) ?_
  show qJ _ _ _ _ _ _ _ _ _ _ qh178 _
  refine J_putfinal (pc := 123) (ci := 10) (k := 21) rfl inX10 (by decide) lf_X10_56 tyX10 tyX10_ok nmX10 rfl rfl rfl dX10_init_123 rfl (by decide) rfl rfl ?_
  show qJ _ _ _ _ _ _ _ _ _ _ qh179 _
  refine J_aload_n (pc := 126) dX10_init_126 rfl rfl rfl ?_
  refine J_bipush (pc := 127) dX10_init_127 (by decide) (by decide) ?_
  refine J_newarray (pc := 129) (t := 0) (N := 12) (ty := .int) (by decide) rfl ac_int (fun _ => rfl) rfl (fun _ _ h => h) dX10_init_129 (by decide +kernel) (by decide) ?_
  show qJ _ _ _ _ _ _ _ _ _ _ qh180 _
  refine J_putfinal (pc := 131) (ci := 10) (k := 22) rfl inX10 (by decide) lf_X10_59 tyX10 tyX10_ok nmX10 rfl rfl rfl dX10_init_131 rfl (by decide) rfl rfl ?_
  show qJ _ _ _ _ _ _ _ _ _ _ qh181 _
  refine J_aload_n (pc := 134) dX10_init_134 rfl rfl rfl ?_
  refine J_bipush (pc := 135) dX10_init_135 (by decide) (by decide) ?_
  refine J_newarray (pc := 137) (t := 0) (N := 40) (ty := .int) (by decide) rfl ac_int (fun _ => rfl) rfl (fun _ _ h => h) dX10_init_137 (by decide +kernel) (by decide) ?_
  show qJ _ _ _ _ _ _ _ _ _ _ qh182 _
  refine J_putfinal (pc := 139) (ci := 10) (k := 23) rfl inX10 (by decide) lf_X10_62 tyX10 tyX10_ok nmX10 rfl rfl rfl dX10_init_139 rfl (by decide) rfl rfl ?_
  show qJ _ _ _ _ _ _ _ _ _ _ qh183 _
  refine J_aload_n (pc := 142) dX10_init_142 rfl rfl rfl ?_
  refine J_iconst (pc := 143) dX10_init_143 ?_
  refine J_newarray (pc := 144) (t := 0) (N := 5) (ty := .int) (by decide) rfl ac_int (fun _ => rfl) rfl (fun _ _ h => h) dX10_init_144 (by decide +kernel) (by decide) ?_
  show qJ _ _ _ _ _ _ _ _ _ _ qh184 _
  refine J_putfinal (pc := 146) (ci := 10) (k := 28) rfl inX10 (by decide) lf_X10_65 tyX10 tyX10_ok nmX10 rfl rfl rfl dX10_init_146 rfl (by decide) rfl rfl ?_
  show qJ _ _ _ _ _ _ _ _ _ _ qh185 _
  refine J_aload_n (pc := 149) dX10_init_149 rfl rfl rfl ?_
  refine J_iconst (pc := 150) dX10_init_150 ?_
  refine J_newarray (pc := 151) (t := 0) (N := 5) (ty := .int) (by decide) rfl ac_int (fun _ => rfl) rfl (fun _ _ h => h) dX10_init_151 (by decide +kernel) (by decide) ?_
  show qJ _ _ _ _ _ _ _ _ _ _ qh186 _
  refine J_putfinal (pc := 153) (ci := 10) (k := 29) rfl inX10 (by decide) lf_X10_68 tyX10 tyX10_ok nmX10 rfl rfl rfl dX10_init_153 rfl (by decide) rfl rfl ?_
  show qJ _ _ _ _ _ _ _ _ _ _ qh187 _
  refine J_aload_n (pc := 156) dX10_init_156 rfl rfl rfl ?_
  refine J_iconst (pc := 157) dX10_init_157 ?_
  refine J_newarray (pc := 158) (t := 0) (N := 5) (ty := .int) (by decide) rfl ac_int (fun _ => rfl) rfl (fun _ _ h => h) dX10_init_158 (by decide +kernel) (by decide) ?_
  show qJ _ _ _ _ _ _ _ _ _ _ qh188 _
  refine J_putfinal (pc := 160) (ci := 10) (k := 30) rfl inX10 (by decide) lf_X10_71 tyX10 tyX10_ok nmX10 rfl rfl rfl dX10_init_160 rfl (by decide) rfl rfl ?_
  show qJ _ _ _ _ _ _ _ _ _ _ qh189 _
  refine J_aload_n (pc := 163) dX10_init_163 rfl rfl rfl ?_
  refine J_iconst (pc := 164) dX10_init_164 ?_
  refine J_newarray (pc := 165) (t := 0) (N := 4) (ty := .int) (by decide) rfl ac_int (fun _ => rfl) rfl (fun _ _ h => h) dX10_init_165 (by decide +kernel) (by decide) ?_
  show qJ _ _ _ _ _ _ _ _ _ _ qh190 _
  refine J_putfinal (pc := 167) (ci := 10) (k := 31) rfl inX10 (by decide) lf_X10_74 tyX10 tyX10_ok nmX10 rfl rfl rfl dX10_init_167 rfl (by decide) rfl rfl ?_
  show qJ _ _ _ _ _ _ _ _ _ _ qh191 _
  refine J_aload_n (pc := 170) dX10_init_170 rfl rfl rfl ?_
  refine J_iconst (pc := 171) dX10_init_171 ?_
  refine J_newarray (pc := 172) (t := 0) (N := 4) (ty := .int) (by decide) rfl ac_int (fun _ => rfl) rfl (fun _ _ h => h) dX10_init_172 (by decide +kernel) (by decide) ?_
  show qJ _ _ _ _ _ _ _ _ _ _ qh192 _
  refine J_putfinal (pc := 174) (ci := 10) (k := 32) rfl inX10 (by decide) lf_X10_77 tyX10 tyX10_ok nmX10 rfl rfl rfl dX10_init_174 rfl (by decide) rfl rfl ?_
  show qJ _ _ _ _ _ _ _ _ _ _ qh193 _
  refine J_aload_n (pc := 177) dX10_init_177 rfl rfl rfl ?_
  refine J_iconst (pc := 178) dX10_init_178 ?_
  refine J_newarray (pc := 179) (t := 0) (N := 4) (ty := .int) (by decide) rfl ac_int (fun _ => rfl) rfl (fun _ _ h => h) dX10_init_179 (by decide +kernel) (by decide) ?_
  show qJ _ _ _ _ _ _ _ _ _ _ qh194 _
  refine J_putfinal (pc := 181) (ci := 10) (k := 33) rfl inX10 (by decide) lf_X10_80 tyX10 tyX10_ok nmX10 rfl rfl rfl dX10_init_181 rfl (by decide) rfl rfl ?_
  show qJ _ _ _ _ _ _ _ _ _ _ qh195 _
  refine J_aload_n (pc := 184) dX10_init_184 rfl rfl rfl ?_
  refine J_iconst (pc := 185) dX10_init_185 ?_
  refine J_newarray (pc := 186) (t := 0) (N := 4) (ty := .int) (by decide) rfl ac_int (fun _ => rfl) rfl (fun _ _ h => h) dX10_init_186 (by decide +kernel) (by decide) ?_
  show qJ _ _ _ _ _ _ _ _ _ _ qh196 _
  refine J_putfinal (pc := 188) (ci := 10) (k := 34) rfl inX10 (by decide) lf_X10_83 tyX10 tyX10_ok nmX10 rfl rfl rfl dX10_init_188 rfl (by decide) rfl rfl ?_
  show qJ _ _ _ _ _ _ _ _ _ _ qh197 _
  refine J_aload_n (pc := 191) dX10_init_191 rfl rfl rfl ?_
  refine J_bipush (pc := 192) dX10_init_192 (by decide) (by decide) ?_
  refine J_newarray (pc := 194) (t := 0) (N := 16) (ty := .int) (by decide) rfl ac_int (fun _ => rfl) rfl (fun _ _ h => h) dX10_init_194 (by decide +kernel) (by decide) ?_
  show qJ _ _ _ _ _ _ _ _ _ _ qh198 _
  refine J_putfinal (pc := 196) (ci := 10) (k := 37) rfl inX10 (by decide) lf_X10_86 tyX10 tyX10_ok nmX10 rfl rfl rfl dX10_init_196 rfl (by decide) rfl rfl ?_
  show qJ _ _ _ _ _ _ _ _ _ _ qh199 _
  refine J_aload_n (pc := 199) dX10_init_199 rfl rfl rfl ?_
  refine J_sipush (pc := 200) dX10_init_200 (by decide) (by decide) ?_
  refine J_newarray (pc := 203) (t := 0) (N := 128) (ty := .int) (by decide) rfl ac_int (fun _ => rfl) rfl (fun _ _ h => h) dX10_init_203 (by decide +kernel) (by decide) ?_
  show qJ _ _ _ _ _ _ _ _ _ _ qh200 _
  refine J_putfinal (pc := 205) (ci := 10) (k := 38) rfl inX10 (by decide) lf_X10_89 tyX10 tyX10_ok nmX10 rfl rfl rfl dX10_init_205 rfl (by decide) rfl rfl ?_
  show qJ _ _ _ _ _ _ _ _ _ _ qh201 _
  refine J_iconst (pc := 208) dX10_init_208 ?_
  refine J_istore_n (pc := 209) (L' := [some (.ref 67), some (.int (iI 0))]) dX10_init_209 rfl (by decide) rfl rfl ?_
  refine J_iload_n (pc := 210) dX10_init_210 rfl rfl ?_
  refine J_bipush (pc := 211) dX10_init_211 (by decide) (by decide) ?_
  refine J_ge_f (pc := 213) (tgt := 229) dX10_init_213 (by decide) (by decide +kernel) ?_
  refine J_aload_n (pc := 216) dX10_init_216 rfl rfl rfl ?_
  refine J_getfield (pc := 217) (ci := 10) (k := 15) rfl inX10 (by decide) lf_X10_38 dX10_init_217 rfl rfl ?_
  refine J_iload_n (pc := 220) dX10_init_220 rfl rfl ?_
  refine J_iconst (pc := 221) dX10_init_221 ?_
  refine J_iastore' (pc := 222) (q9 := 0) dX10_init_222 rfl (by decide +kernel) (by decide) ?_
  show qJ _ _ _ _ _ _ _ _ _ _ qh202 _
  refine J_iinc (pc := 223) (L' := [some (.ref 67), some (.int (iI 1))]) dX10_init_223 rfl (by decide) rfl rfl ?_
  refine J_goto (pc := 226) (tgt := 210) dX10_init_226 (by decide) ?_
  refine J_iload_n (pc := 210) dX10_init_210 rfl rfl ?_
  refine J_bipush (pc := 211) dX10_init_211 (by decide) (by decide) ?_
  refine J_ge_f (pc := 213) (tgt := 229) dX10_init_213 (by decide) (by decide +kernel) ?_
  refine J_aload_n (pc := 216) dX10_init_216 rfl rfl rfl ?_
  refine J_getfield (pc := 217) (ci := 10) (k := 15) rfl inX10 (by decide) lf_X10_38 dX10_init_217 rfl rfl ?_
  refine J_iload_n (pc := 220) dX10_init_220 rfl rfl ?_
  refine J_iconst (pc := 221) dX10_init_221 ?_
  refine J_iastore' (pc := 222) (q9 := 1) dX10_init_222 rfl (by decide +kernel) (by decide) ?_
  show qJ _ _ _ _ _ _ _ _ _ _ qh203 _
  refine J_iinc (pc := 223) (L' := [some (.ref 67), some (.int (iI 2))]) dX10_init_223 rfl (by decide) rfl rfl ?_
  refine J_goto (pc := 226) (tgt := 210) dX10_init_226 (by decide) ?_
  refine J_iload_n (pc := 210) dX10_init_210 rfl rfl ?_
  refine J_bipush (pc := 211) dX10_init_211 (by decide) (by decide) ?_
  refine J_ge_f (pc := 213) (tgt := 229) dX10_init_213 (by decide) (by decide +kernel) ?_
  refine J_aload_n (pc := 216) dX10_init_216 rfl rfl rfl ?_
  refine J_getfield (pc := 217) (ci := 10) (k := 15) rfl inX10 (by decide) lf_X10_38 dX10_init_217 rfl rfl ?_
  refine J_iload_n (pc := 220) dX10_init_220 rfl rfl ?_
  refine J_iconst (pc := 221) dX10_init_221 ?_
  refine J_iastore' (pc := 222) (q9 := 2) dX10_init_222 rfl (by decide +kernel) (by decide) ?_
  show qJ _ _ _ _ _ _ _ _ _ _ qh204 _
  refine J_iinc (pc := 223) (L' := [some (.ref 67), some (.int (iI 3))]) dX10_init_223 rfl (by decide) rfl rfl ?_
  refine J_goto (pc := 226) (tgt := 210) dX10_init_226 (by decide) ?_
  refine J_iload_n (pc := 210) dX10_init_210 rfl rfl ?_
  refine J_bipush (pc := 211) dX10_init_211 (by decide) (by decide) ?_
  refine J_ge_f (pc := 213) (tgt := 229) dX10_init_213 (by decide) (by decide +kernel) ?_
  refine J_aload_n (pc := 216) dX10_init_216 rfl rfl rfl ?_
  refine J_getfield (pc := 217) (ci := 10) (k := 15) rfl inX10 (by decide) lf_X10_38 dX10_init_217 rfl rfl ?_
  refine J_iload_n (pc := 220) dX10_init_220 rfl rfl ?_
  refine J_iconst (pc := 221) dX10_init_221 ?_
  refine J_iastore' (pc := 222) (q9 := 3) dX10_init_222 rfl (by decide +kernel) (by decide) ?_
  show qJ _ _ _ _ _ _ _ _ _ _ qh205 _
  refine J_iinc (pc := 223) (L' := [some (.ref 67), some (.int (iI 4))]) dX10_init_223 rfl (by decide) rfl rfl ?_
  refine J_goto (pc := 226) (tgt := 210) dX10_init_226 (by decide) ?_
  refine J_iload_n (pc := 210) dX10_init_210 rfl rfl ?_
  refine J_bipush (pc := 211) dX10_init_211 (by decide) (by decide) ?_
  refine J_ge_f (pc := 213) (tgt := 229) dX10_init_213 (by decide) (by decide +kernel) ?_
  refine J_aload_n (pc := 216) dX10_init_216 rfl rfl rfl ?_
  refine J_getfield (pc := 217) (ci := 10) (k := 15) rfl inX10 (by decide) lf_X10_38 dX10_init_217 rfl rfl ?_
  refine J_iload_n (pc := 220) dX10_init_220 rfl rfl ?_
  refine J_iconst (pc := 221) dX10_init_221 ?_
  refine J_iastore' (pc := 222) (q9 := 4) dX10_init_222 rfl (by decide +kernel) (by decide) ?_
  show qJ _ _ _ _ _ _ _ _ _ _ qh206 _
  refine J_iinc (pc := 223) (L' := [some (.ref 67), some (.int (iI 5))]) dX10_init_223 rfl (by decide) rfl rfl ?_
  refine J_goto (pc := 226) (tgt := 210) dX10_init_226 (by decide) ?_
  refine J_iload_n (pc := 210) dX10_init_210 rfl rfl ?_
  refine J_bipush (pc := 211) dX10_init_211 (by decide) (by decide) ?_
  refine J_ge_f (pc := 213) (tgt := 229) dX10_init_213 (by decide) (by decide +kernel) ?_
  refine J_aload_n (pc := 216) dX10_init_216 rfl rfl rfl ?_
  refine J_getfield (pc := 217) (ci := 10) (k := 15) rfl inX10 (by decide) lf_X10_38 dX10_init_217 rfl rfl ?_
  refine J_iload_n (pc := 220) dX10_init_220 rfl rfl ?_
  refine J_iconst (pc := 221) dX10_init_221 ?_
  refine J_iastore' (pc := 222) (q9 := 5) dX10_init_222 rfl (by decide +kernel) (by decide) ?_
  show qJ _ _ _ _ _ _ _ _ _ _ qh207 _
  refine J_iinc (pc := 223) (L' := [some (.ref 67), some (.int (iI 6))]) dX10_init_223 rfl (by decide) rfl rfl ?_
  refine J_goto (pc := 226) (tgt := 210) dX10_init_226 (by decide) ?_
  refine J_iload_n (pc := 210) dX10_init_210 rfl rfl ?_
  refine J_bipush (pc := 211) dX10_init_211 (by decide) (by decide) ?_
  refine J_ge_t (pc := 213) (tgt := 229) dX10_init_213 (by decide) (by decide +kernel) ?_
  refine J_iconst (pc := 229) dX10_init_229 ?_
  refine J_istore_n (pc := 230) (L' := [some (.ref 67), some (.int (iI 0))]) dX10_init_230 rfl (by decide) rfl rfl ?_
  refine J_iload_n (pc := 231) dX10_init_231 rfl rfl ?_
  refine J_iconst (pc := 232) dX10_init_232 ?_
  refine J_ge_f (pc := 233) (tgt := 249) dX10_init_233 (by decide) (by decide +kernel) ?_
  refine J_aload_n (pc := 236) dX10_init_236 rfl rfl rfl ?_
  refine J_getfield (pc := 237) (ci := 10) (k := 17) rfl inX10 (by decide) lf_X10_44 dX10_init_237 rfl rfl ?_
  refine J_iload_n (pc := 240) dX10_init_240 rfl rfl ?_
  refine J_iconst (pc := 241) dX10_init_241 ?_
  refine J_iastore' (pc := 242) (q9 := 0) dX10_init_242 rfl (by decide +kernel) (by decide) ?_
  show qJ _ _ _ _ _ _ _ _ _ _ qh208 _
  refine J_iinc (pc := 243) (L' := [some (.ref 67), some (.int (iI 1))]) dX10_init_243 rfl (by decide) rfl rfl ?_
  refine J_goto (pc := 246) (tgt := 231) dX10_init_246 (by decide) ?_
  refine J_iload_n (pc := 231) dX10_init_231 rfl rfl ?_
  refine J_iconst (pc := 232) dX10_init_232 ?_
  refine J_ge_f (pc := 233) (tgt := 249) dX10_init_233 (by decide) (by decide +kernel) ?_
  refine J_aload_n (pc := 236) dX10_init_236 rfl rfl rfl ?_
  refine J_getfield (pc := 237) (ci := 10) (k := 17) rfl inX10 (by decide) lf_X10_44 dX10_init_237 rfl rfl ?_
  refine J_iload_n (pc := 240) dX10_init_240 rfl rfl ?_
  refine J_iconst (pc := 241) dX10_init_241 ?_
  refine J_iastore' (pc := 242) (q9 := 1) dX10_init_242 rfl (by decide +kernel) (by decide) ?_
  show qJ _ _ _ _ _ _ _ _ _ _ qh209 _
  refine J_iinc (pc := 243) (L' := [some (.ref 67), some (.int (iI 2))]) dX10_init_243 rfl (by decide) rfl rfl ?_
  refine J_goto (pc := 246) (tgt := 231) dX10_init_246 (by decide) ?_
  refine J_iload_n (pc := 231) dX10_init_231 rfl rfl ?_
  refine J_iconst (pc := 232) dX10_init_232 ?_
  refine J_ge_f (pc := 233) (tgt := 249) dX10_init_233 (by decide) (by decide +kernel) ?_
  refine J_aload_n (pc := 236) dX10_init_236 rfl rfl rfl ?_
  refine J_getfield (pc := 237) (ci := 10) (k := 17) rfl inX10 (by decide) lf_X10_44 dX10_init_237 rfl rfl ?_
  refine J_iload_n (pc := 240) dX10_init_240 rfl rfl ?_
  refine J_iconst (pc := 241) dX10_init_241 ?_
  refine J_iastore' (pc := 242) (q9 := 2) dX10_init_242 rfl (by decide +kernel) (by decide) ?_
  show qJ _ _ _ _ _ _ _ _ _ _ qh210 _
  refine J_iinc (pc := 243) (L' := [some (.ref 67), some (.int (iI 3))]) dX10_init_243 rfl (by decide) rfl rfl ?_
  refine J_goto (pc := 246) (tgt := 231) dX10_init_246 (by decide) ?_
  refine J_iload_n (pc := 231) dX10_init_231 rfl rfl ?_
  refine J_iconst (pc := 232) dX10_init_232 ?_
  refine J_ge_f (pc := 233) (tgt := 249) dX10_init_233 (by decide) (by decide +kernel) ?_
  refine J_aload_n (pc := 236) dX10_init_236 rfl rfl rfl ?_
  refine J_getfield (pc := 237) (ci := 10) (k := 17) rfl inX10 (by decide) lf_X10_44 dX10_init_237 rfl rfl ?_
  refine J_iload_n (pc := 240) dX10_init_240 rfl rfl ?_
  refine J_iconst (pc := 241) dX10_init_241 ?_
  refine J_iastore' (pc := 242) (q9 := 3) dX10_init_242 rfl (by decide +kernel) (by decide) ?_
  show qJ _ _ _ _ _ _ _ _ _ _ qh211 _
  refine J_iinc (pc := 243) (L' := [some (.ref 67), some (.int (iI 4))]) dX10_init_243 rfl (by decide) rfl rfl ?_
  refine J_goto (pc := 246) (tgt := 231) dX10_init_246 (by decide) ?_
  refine J_iload_n (pc := 231) dX10_init_231 rfl rfl ?_
  refine J_iconst (pc := 232) dX10_init_232 ?_
  refine J_ge_t (pc := 233) (tgt := 249) dX10_init_233 (by decide) (by decide +kernel) ?_
  refine J_iconst (pc := 249) dX10_init_249 ?_
  refine J_istore_n (pc := 250) (L' := [some (.ref 67), some (.int (iI 0))]) dX10_init_250 rfl (by decide) rfl rfl ?_
  refine J_iload_n (pc := 251) dX10_init_251 rfl rfl ?_
  refine J_iconst (pc := 252) dX10_init_252 ?_
  refine J_ge_f (pc := 253) (tgt := 269) dX10_init_253 (by decide) (by decide +kernel) ?_
  refine J_aload_n (pc := 256) dX10_init_256 rfl rfl rfl ?_
  refine J_getfield (pc := 257) (ci := 10) (k := 19) rfl inX10 (by decide) lf_X10_50 dX10_init_257 rfl rfl ?_
  refine J_iload_n (pc := 260) dX10_init_260 rfl rfl ?_
  refine J_iconst (pc := 261) dX10_init_261 ?_
  refine J_iastore' (pc := 262) (q9 := 0) dX10_init_262 rfl (by decide +kernel) (by decide) ?_
  show qJ _ _ _ _ _ _ _ _ _ _ qh212 _
  refine J_iinc (pc := 263) (L' := [some (.ref 67), some (.int (iI 1))]) dX10_init_263 rfl (by decide) rfl rfl ?_
  refine J_goto (pc := 266) (tgt := 251) dX10_init_266 (by decide) ?_
  refine J_iload_n (pc := 251) dX10_init_251 rfl rfl ?_
  refine J_iconst (pc := 252) dX10_init_252 ?_
  refine J_ge_f (pc := 253) (tgt := 269) dX10_init_253 (by decide) (by decide +kernel) ?_
  refine J_aload_n (pc := 256) dX10_init_256 rfl rfl rfl ?_
  refine J_getfield (pc := 257) (ci := 10) (k := 19) rfl inX10 (by decide) lf_X10_50 dX10_init_257 rfl rfl ?_
  refine J_iload_n (pc := 260) dX10_init_260 rfl rfl ?_
  refine J_iconst (pc := 261) dX10_init_261 ?_
  refine J_iastore' (pc := 262) (q9 := 1) dX10_init_262 rfl (by decide +kernel) (by decide) ?_
  show qJ _ _ _ _ _ _ _ _ _ _ qh213 _
  refine J_iinc (pc := 263) (L' := [some (.ref 67), some (.int (iI 2))]) dX10_init_263 rfl (by decide) rfl rfl ?_
  refine J_goto (pc := 266) (tgt := 251) dX10_init_266 (by decide) ?_
  refine J_iload_n (pc := 251) dX10_init_251 rfl rfl ?_
  refine J_iconst (pc := 252) dX10_init_252 ?_
  refine J_ge_f (pc := 253) (tgt := 269) dX10_init_253 (by decide) (by decide +kernel) ?_
  refine J_aload_n (pc := 256) dX10_init_256 rfl rfl rfl ?_
  refine J_getfield (pc := 257) (ci := 10) (k := 19) rfl inX10 (by decide) lf_X10_50 dX10_init_257 rfl rfl ?_
  refine J_iload_n (pc := 260) dX10_init_260 rfl rfl ?_
  refine J_iconst (pc := 261) dX10_init_261 ?_
  refine J_iastore' (pc := 262) (q9 := 2) dX10_init_262 rfl (by decide +kernel) (by decide) ?_
  show qJ _ _ _ _ _ _ _ _ _ _ qh214 _
  refine J_iinc (pc := 263) (L' := [some (.ref 67), some (.int (iI 3))]) dX10_init_263 rfl (by decide) rfl rfl ?_
  refine J_goto (pc := 266) (tgt := 251) dX10_init_266 (by decide) ?_
  refine J_iload_n (pc := 251) dX10_init_251 rfl rfl ?_
  refine J_iconst (pc := 252) dX10_init_252 ?_
  refine J_ge_t (pc := 253) (tgt := 269) dX10_init_253 (by decide) (by decide +kernel) ?_
  exact J_ret (pc := 269) (r := none) dX10_init_269 (Or.inr (Or.inr ⟨rfl, rfl, rfl⟩)) rfl
def mu0 : Mem := fun k p => match k with
  | 0 => if p = 15 then 1 else 0
  | 38 => if p = 1 then -1 else 0
  | 40 => if p = 1 then -1 else 0
  | 42 => if p = 1 then -1 else 0
  | 44 => if p = 1 then -1 else 0
  | 46 => if p = 1 then -1 else 0
  | 48 => if p = 1 then -1 else 0
  | 50 => if p = 1 then -1 else 0
  | 52 => if p = 1 then -1 else 0
  | 54 => if p = 1 then -1 else 0
  | 56 => if p = 1 then -1 else 0
  | 58 => if p = 2 then -1 else 0
  | 61 => if p = 2 then -1 else 0
  | 64 => if p = 2 then -1 else 0
  | 67 => if p = 12 then 1 else 0
  | 76 => if p < 6 then -1 else 0
  | 78 => if p < 4 then -1 else 0
  | 80 => if p < 3 then -1 else 0
  | _ => 0
theorem lh_0 : qc58 = mkc (shp 0) (mu0 0) := rfl
theorem lh_1 : qc78 = mkc (shp 1) (mu0 1) := by
  show Sum.inl (_, _, Sum.inr (Sum.inr (Sum.inr (Sum.inr _)))) = Sum.inl (_, _, Sum.inr (Sum.inr (Sum.inr (Sum.inr _))))
  congr 7
  funext j
  match j with
  | 0 => rfl
  | 1 => rfl
  | 2 => rfl
  | 3 => rfl
  | 4 => rfl
  | 5 => rfl
  | j + 6 => simp [va_up]
theorem lh_2 : qc92 = mkc (shp 2) (mu0 2) := by
  show Sum.inl (_, _, Sum.inr (Sum.inr (Sum.inr (Sum.inr _)))) = Sum.inl (_, _, Sum.inr (Sum.inr (Sum.inr (Sum.inr _))))
  congr 7
  funext j
  match j with
  | 0 => rfl
  | 1 => rfl
  | 2 => rfl
  | 3 => rfl
  | j + 4 => simp [va_up]
theorem lh_3 : qc10 = mkc (shp 3) (mu0 3) := rfl
theorem lh_4 : qc7 = mkc (shp 4) (mu0 4) := rfl
theorem lh_5 : qc9 = mkc (shp 5) (mu0 5) := rfl
theorem lh_6 : qc21 = mkc (shp 6) (mu0 6) := rfl
theorem lh_7 : qc13 = mkc (shp 7) (mu0 7) := rfl
theorem lh_8 : qc15 = mkc (shp 8) (mu0 8) := rfl
theorem lh_9 : qc17 = mkc (shp 9) (mu0 9) := rfl
theorem lh_10 : qc17 = mkc (shp 10) (mu0 10) := rfl
theorem lh_11 : qc17 = mkc (shp 11) (mu0 11) := rfl
theorem lh_12 : qc17 = mkc (shp 12) (mu0 12) := rfl
theorem lh_13 : qc24 = mkc (shp 13) (mu0 13) := rfl
theorem lh_14 : qc9 = mkc (shp 14) (mu0 14) := rfl
theorem lh_15 : qc29 = mkc (shp 15) (mu0 15) := rfl
theorem lh_16 : qc27 = mkc (shp 16) (mu0 16) := rfl
theorem lh_17 : qc17 = mkc (shp 17) (mu0 17) := rfl
theorem lh_18 : qc103 = mkc (shp 18) (mu0 18) := by
  show Sum.inl (_, _, Sum.inr (Sum.inr (Sum.inr (Sum.inr _)))) = Sum.inl (_, _, Sum.inr (Sum.inr (Sum.inr (Sum.inr _))))
  congr 7
  funext j
  match j with
  | 0 => rfl
  | 1 => rfl
  | 2 => rfl
  | j + 3 => simp [va_up]
theorem lh_19 : qc35 = mkc (shp 19) (mu0 19) := rfl
theorem lh_20 : qc34 = mkc (shp 20) (mu0 20) := rfl
theorem lh_21 : qc9 = mkc (shp 21) (mu0 21) := rfl
theorem lh_22 : qc42 = mkc (shp 22) (mu0 22) := rfl
theorem lh_23 : qc48 = mkc (shp 23) (mu0 23) := by
  show Sum.inl (_, _, Sum.inr (Sum.inr (Sum.inr (Sum.inr _)))) = Sum.inl (_, _, Sum.inr (Sum.inr (Sum.inr (Sum.inr _))))
  congr 7
  funext j
  match j with
  | 0 => rfl
  | 1 => rfl
  | 2 => rfl
  | j + 3 => simp [va_up]
theorem lh_24 : qc40 = mkc (shp 24) (mu0 24) := rfl
theorem lh_25 : qc40 = mkc (shp 25) (mu0 25) := rfl
theorem lh_26 : qc43 = mkc (shp 26) (mu0 26) := rfl
theorem lh_27 : qc9 = mkc (shp 27) (mu0 27) := rfl
theorem lh_28 : qc45 = mkc (shp 28) (mu0 28) := rfl
theorem lh_29 : qc9 = mkc (shp 29) (mu0 29) := rfl
theorem lh_30 : qc47 = mkc (shp 30) (mu0 30) := rfl
theorem lh_31 : qc9 = mkc (shp 31) (mu0 31) := rfl
theorem lh_32 : qc54 = mkc (shp 32) (mu0 32) := rfl
theorem lh_33 : qc51 = mkc (shp 33) (mu0 33) := rfl
theorem lh_34 : qc9 = mkc (shp 34) (mu0 34) := rfl
theorem lh_35 : qc53 = mkc (shp 35) (mu0 35) := rfl
theorem lh_36 : qc13 = mkc (shp 36) (mu0 36) := rfl
theorem lh_37 : qc15 = mkc (shp 37) (mu0 37) := rfl
theorem lh_38 : qc62 = mkc (shp 38) (mu0 38) := rfl
theorem lh_39 : qc60 = mkc (shp 39) (mu0 39) := rfl
theorem lh_40 : qc65 = mkc (shp 40) (mu0 40) := rfl
theorem lh_41 : qc60 = mkc (shp 41) (mu0 41) := rfl
theorem lh_42 : qc68 = mkc (shp 42) (mu0 42) := rfl
theorem lh_43 : qc60 = mkc (shp 43) (mu0 43) := rfl
theorem lh_44 : qc71 = mkc (shp 44) (mu0 44) := rfl
theorem lh_45 : qc60 = mkc (shp 45) (mu0 45) := rfl
theorem lh_46 : qc74 = mkc (shp 46) (mu0 46) := rfl
theorem lh_47 : qc60 = mkc (shp 47) (mu0 47) := rfl
theorem lh_48 : qc77 = mkc (shp 48) (mu0 48) := rfl
theorem lh_49 : qc60 = mkc (shp 49) (mu0 49) := rfl
theorem lh_50 : qc82 = mkc (shp 50) (mu0 50) := rfl
theorem lh_51 : qc80 = mkc (shp 51) (mu0 51) := rfl
theorem lh_52 : qc85 = mkc (shp 52) (mu0 52) := rfl
theorem lh_53 : qc80 = mkc (shp 53) (mu0 53) := rfl
theorem lh_54 : qc88 = mkc (shp 54) (mu0 54) := rfl
theorem lh_55 : qc80 = mkc (shp 55) (mu0 55) := rfl
theorem lh_56 : qc91 = mkc (shp 56) (mu0 56) := rfl
theorem lh_57 : qc80 = mkc (shp 57) (mu0 57) := rfl
theorem lh_58 : qc96 = mkc (shp 58) (mu0 58) := rfl
theorem lh_59 : qc27 = mkc (shp 59) (mu0 59) := rfl
theorem lh_60 : qc17 = mkc (shp 60) (mu0 60) := rfl
theorem lh_61 : qc100 = mkc (shp 61) (mu0 61) := rfl
theorem lh_62 : qc27 = mkc (shp 62) (mu0 62) := rfl
theorem lh_63 : qc17 = mkc (shp 63) (mu0 63) := rfl
theorem lh_64 : qc104 = mkc (shp 64) (mu0 64) := rfl
theorem lh_65 : qc27 = mkc (shp 65) (mu0 65) := rfl
theorem lh_66 : qc17 = mkc (shp 66) (mu0 66) := rfl
theorem lh_67 : qc137 = mkc (shp 67) (mu0 67) := rfl
theorem lh_68 : qc13 = mkc (shp 68) (mu0 68) := rfl
theorem lh_69 : qc17 = mkc (shp 69) (mu0 69) := rfl
theorem lh_70 : qc17 = mkc (shp 70) (mu0 70) := rfl
theorem lh_71 : qc17 = mkc (shp 71) (mu0 71) := rfl
theorem lh_72 : qc17 = mkc (shp 72) (mu0 72) := rfl
theorem lh_73 : qc9 = mkc (shp 73) (mu0 73) := rfl
theorem lh_74 : qc112 = mkc (shp 74) (mu0 74) := rfl
theorem lh_75 : qc15 = mkc (shp 75) (mu0 75) := rfl
theorem lh_76 : qc143 = mkc (shp 76) (mu0 76) := by
  show Sum.inl (_, _, Sum.inl _) = Sum.inl (_, _, Sum.inl _)
  congr 4
  funext j
  match j with
  | 0 => rfl
  | 1 => rfl
  | 2 => rfl
  | 3 => rfl
  | 4 => rfl
  | 5 => rfl
  | j + 6 => simp [upd, mu0]; rfl
theorem lh_77 : qc117 = mkc (shp 77) (mu0 77) := rfl
theorem lh_78 : qc147 = mkc (shp 78) (mu0 78) := by
  show Sum.inl (_, _, Sum.inl _) = Sum.inl (_, _, Sum.inl _)
  congr 4
  funext j
  match j with
  | 0 => rfl
  | 1 => rfl
  | 2 => rfl
  | 3 => rfl
  | j + 4 => simp [upd, mu0]; rfl
theorem lh_79 : qc117 = mkc (shp 79) (mu0 79) := rfl
theorem lh_80 : qc150 = mkc (shp 80) (mu0 80) := by
  show Sum.inl (_, _, Sum.inl _) = Sum.inl (_, _, Sum.inl _)
  congr 4
  funext j
  match j with
  | 0 => rfl
  | 1 => rfl
  | 2 => rfl
  | j + 3 => simp [upd, mu0]; rfl
theorem lh_81 : qc122 = mkc (shp 81) (mu0 81) := rfl
theorem lh_82 : qc124 = mkc (shp 82) (mu0 82) := rfl
theorem lh_83 : qc126 = mkc (shp 83) (mu0 83) := rfl
theorem lh_84 : qc60 = mkc (shp 84) (mu0 84) := rfl
theorem lh_85 : qc13 = mkc (shp 85) (mu0 85) := rfl
theorem lh_86 : qc13 = mkc (shp 86) (mu0 86) := rfl
theorem lh_87 : qc13 = mkc (shp 87) (mu0 87) := rfl
theorem lh_88 : qc17 = mkc (shp 88) (mu0 88) := rfl
theorem lh_89 : qc17 = mkc (shp 89) (mu0 89) := rfl
theorem lh_90 : qc17 = mkc (shp 90) (mu0 90) := rfl
theorem lh_91 : qc17 = mkc (shp 91) (mu0 91) := rfl
theorem lh_92 : qc9 = mkc (shp 92) (mu0 92) := rfl
theorem lh_93 : qc53 = mkc (shp 93) (mu0 93) := rfl
set_option maxRecDepth 40000 in
theorem last_heap : qh214 = lay mu0 := by
  show [qc58, qc78, qc92, qc10, qc7, qc9, qc21, qc13, qc15, qc17, qc17, qc17, qc17, qc24, qc9, qc29, qc27, qc17, qc103, qc35, qc34, qc9, qc42, qc48, qc40, qc40, qc43, qc9, qc45, qc9, qc47, qc9, qc54, qc51, qc9, qc53, qc13, qc15, qc62, qc60, qc65, qc60, qc68, qc60, qc71, qc60, qc74, qc60, qc77, qc60, qc82, qc80, qc85, qc80, qc88, qc80, qc91, qc80, qc96, qc27, qc17, qc100, qc27, qc17, qc104, qc27, qc17, qc137, qc13, qc17, qc17, qc17, qc17, qc9, qc112, qc15, qc143, qc117, qc147, qc117, qc150, qc122, qc124, qc126, qc60, qc13, qc13, qc13, qc17, qc17, qc17, qc17, qc9, qc53] = [mkc (shp 0) (mu0 0), mkc (shp 1) (mu0 1), mkc (shp 2) (mu0 2), mkc (shp 3) (mu0 3), mkc (shp 4) (mu0 4), mkc (shp 5) (mu0 5), mkc (shp 6) (mu0 6), mkc (shp 7) (mu0 7), mkc (shp 8) (mu0 8), mkc (shp 9) (mu0 9), mkc (shp 10) (mu0 10), mkc (shp 11) (mu0 11), mkc (shp 12) (mu0 12), mkc (shp 13) (mu0 13), mkc (shp 14) (mu0 14), mkc (shp 15) (mu0 15), mkc (shp 16) (mu0 16), mkc (shp 17) (mu0 17), mkc (shp 18) (mu0 18), mkc (shp 19) (mu0 19), mkc (shp 20) (mu0 20), mkc (shp 21) (mu0 21), mkc (shp 22) (mu0 22), mkc (shp 23) (mu0 23), mkc (shp 24) (mu0 24), mkc (shp 25) (mu0 25), mkc (shp 26) (mu0 26), mkc (shp 27) (mu0 27), mkc (shp 28) (mu0 28), mkc (shp 29) (mu0 29), mkc (shp 30) (mu0 30), mkc (shp 31) (mu0 31), mkc (shp 32) (mu0 32), mkc (shp 33) (mu0 33), mkc (shp 34) (mu0 34), mkc (shp 35) (mu0 35), mkc (shp 36) (mu0 36), mkc (shp 37) (mu0 37), mkc (shp 38) (mu0 38), mkc (shp 39) (mu0 39), mkc (shp 40) (mu0 40), mkc (shp 41) (mu0 41), mkc (shp 42) (mu0 42), mkc (shp 43) (mu0 43), mkc (shp 44) (mu0 44), mkc (shp 45) (mu0 45), mkc (shp 46) (mu0 46), mkc (shp 47) (mu0 47), mkc (shp 48) (mu0 48), mkc (shp 49) (mu0 49), mkc (shp 50) (mu0 50), mkc (shp 51) (mu0 51), mkc (shp 52) (mu0 52), mkc (shp 53) (mu0 53), mkc (shp 54) (mu0 54), mkc (shp 55) (mu0 55), mkc (shp 56) (mu0 56), mkc (shp 57) (mu0 57), mkc (shp 58) (mu0 58), mkc (shp 59) (mu0 59), mkc (shp 60) (mu0 60), mkc (shp 61) (mu0 61), mkc (shp 62) (mu0 62), mkc (shp 63) (mu0 63), mkc (shp 64) (mu0 64), mkc (shp 65) (mu0 65), mkc (shp 66) (mu0 66), mkc (shp 67) (mu0 67), mkc (shp 68) (mu0 68), mkc (shp 69) (mu0 69), mkc (shp 70) (mu0 70), mkc (shp 71) (mu0 71), mkc (shp 72) (mu0 72), mkc (shp 73) (mu0 73), mkc (shp 74) (mu0 74), mkc (shp 75) (mu0 75), mkc (shp 76) (mu0 76), mkc (shp 77) (mu0 77), mkc (shp 78) (mu0 78), mkc (shp 79) (mu0 79), mkc (shp 80) (mu0 80), mkc (shp 81) (mu0 81), mkc (shp 82) (mu0 82), mkc (shp 83) (mu0 83), mkc (shp 84) (mu0 84), mkc (shp 85) (mu0 85), mkc (shp 86) (mu0 86), mkc (shp 87) (mu0 87), mkc (shp 88) (mu0 88), mkc (shp 89) (mu0 89), mkc (shp 90) (mu0 90), mkc (shp 91) (mu0 91), mkc (shp 92) (mu0 92), mkc (shp 93) (mu0 93)]
  rw [← lh_0, ← lh_1, ← lh_2, ← lh_3, ← lh_4, ← lh_5, ← lh_6, ← lh_7, ← lh_8, ← lh_9, ← lh_10, ← lh_11, ← lh_12, ← lh_13, ← lh_14, ← lh_15, ← lh_16, ← lh_17, ← lh_18, ← lh_19, ← lh_20, ← lh_21, ← lh_22, ← lh_23, ← lh_24, ← lh_25, ← lh_26, ← lh_27, ← lh_28, ← lh_29, ← lh_30, ← lh_31, ← lh_32, ← lh_33, ← lh_34, ← lh_35, ← lh_36, ← lh_37, ← lh_38, ← lh_39, ← lh_40, ← lh_41, ← lh_42, ← lh_43, ← lh_44, ← lh_45, ← lh_46, ← lh_47, ← lh_48, ← lh_49, ← lh_50, ← lh_51, ← lh_52, ← lh_53, ← lh_54, ← lh_55, ← lh_56, ← lh_57, ← lh_58, ← lh_59, ← lh_60, ← lh_61, ← lh_62, ← lh_63, ← lh_64, ← lh_65, ← lh_66, ← lh_67, ← lh_68, ← lh_69, ← lh_70, ← lh_71, ← lh_72, ← lh_73, ← lh_74, ← lh_75, ← lh_76, ← lh_77, ← lh_78, ← lh_79, ← lh_80, ← lh_81, ← lh_82, ← lh_83, ← lh_84, ← lh_85, ← lh_86, ← lh_87, ← lh_88, ← lh_89, ← lh_90, ← lh_91, ← lh_92, ← lh_93]
