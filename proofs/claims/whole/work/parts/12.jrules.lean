section JR
variable {l : Launch} {G : qG} {y : MethodName} {cc : ByteArray} {mL d : Nat} {rt : Option FieldType} {pc : Nat} {L L' : List (Option Value)} {st : List Value} {A : qH} {F F1 F2 : Option (Option Value × qH)}
theorem J_iconst {n : Int} (hd : decode cc pc = .ok (.iconst n, 1)) (kk : qJ l G y cc mL rt d (pc + 1) L (.int (iI n) :: st) A F) : qJ l G y cc mL rt d pc L st A F :=
  qJ_st kk (fun _ _ _ _ _ _ _ _ _ _ _ _ _ _ _ _ _ _ hF hH hS hl hc hs k => lv_iconst hF.1 hF.2.1 hd rfl k)
theorem J_bipush {n : Int} (hd : decode cc pc = .ok (.bipush n, 2)) (h1 : -128 ≤ n) (h2 : n < 128) (kk : qJ l G y cc mL rt d (pc + 2) L (.int (iI n) :: st) A F) : qJ l G y cc mL rt d pc L st A F :=
  qJ_st kk (fun _ _ _ _ _ _ _ _ _ _ _ _ _ _ _ _ _ _ hF hH hS hl hc hs k => lv_bipush hF.1 hF.2.1 hd (iI_b h1 h2) k)
theorem J_sipush {n : Int} (hd : decode cc pc = .ok (.sipush n, 3)) (h1 : -32768 ≤ n) (h2 : n < 32768) (kk : qJ l G y cc mL rt d (pc + 3) L (.int (iI n) :: st) A F) : qJ l G y cc mL rt d pc L st A F :=
  qJ_st kk (fun _ _ _ _ _ _ _ _ _ _ _ _ _ _ _ _ _ _ hF hH hS hl hc hs k => lv_sipush hF.1 hF.2.1 hd (iI_s h1 h2) k)
theorem J_lconst {n : Fin 2} {z : Int} (hd : decode cc pc = .ok (.lconst n, 1)) (hz : Int64.ofNat (n : Nat) = iL z) (kk : qJ l G y cc mL rt d (pc + 1) L (.long (iL z) :: st) A F) : qJ l G y cc mL rt d pc L st A F :=
  qJ_st kk (fun _ _ _ _ _ _ _ _ _ _ _ _ _ _ _ _ _ _ hF hH hS hl hc hs k => lv_lconst hF.1 hF.2.1 hd hz k)
theorem J_ldc {i : Nat} {v : Int32} {z : Int} (hd : decode cc pc = .ok (.ldc i, 2)) (hw : Cond.constant y.cls i v ∈ qws) (hz : v = iI z) (kk : qJ l G y cc mL rt d (pc + 2) L (.int (iI z) :: st) A F) : qJ l G y cc mL rt d pc L st A F :=
  qJ_st kk (fun _ _ _ _ _ _ _ _ _ _ _ _ _ _ _ _ _ _ hF hH hS hl hc hs k => lv_ldc hF.1 hF.2.1 hF.2.2.2.1 (hF.2.2.2.2.1 _ hw) hd (by rw [← hz] at k; exact k))
theorem J_ldcw {i : Nat} {v : Int32} {z : Int} (hd : decode cc pc = .ok (.ldc_w i, 3)) (hw : Cond.constant y.cls i v ∈ qws) (hz : v = iI z) (kk : qJ l G y cc mL rt d (pc + 3) L (.int (iI z) :: st) A F) : qJ l G y cc mL rt d pc L st A F :=
  qJ_st kk (fun _ _ _ _ _ _ _ _ _ _ _ _ _ _ _ _ _ _ hF hH hS hl hc hs k => lv_ldcw hF.1 hF.2.1 hF.2.2.2.1 (hF.2.2.2.2.1 _ hw) hd (by rw [← hz] at k; exact k))
theorem J_ldc2 {i : Nat} {v : Int64} {z : Int} (hd : decode cc pc = .ok (.ldc2_w i, 3)) (hw : Cond.constantLong y.cls i v ∈ qws) (hz : v = iL z) (kk : qJ l G y cc mL rt d (pc + 3) L (.long (iL z) :: st) A F) : qJ l G y cc mL rt d pc L st A F :=
  qJ_st kk (fun _ _ _ _ _ _ _ _ _ _ _ _ _ _ _ _ _ _ hF hH hS hl hc hs k => lv_ldc2 hF.1 hF.2.1 hF.2.2.2.1 (hF.2.2.2.2.1 _ hw) hd (by rw [← hz] at k; exact k))
theorem J_iload_n {n : Fin 4} {i : Nat} {z : Int} (hd : decode cc pc = .ok (.iload_n n, 1)) (hi : (n : Nat) = i) (hL : L[i]? = some (some (.int (iI z)))) (kk : qJ l G y cc mL rt d (pc + 1) L (.int (iI z) :: st) A F) : qJ l G y cc mL rt d pc L st A F :=
  qJ_st kk (fun _ _ _ _ _ _ _ _ _ _ _ _ _ _ _ _ _ _ hF hH hS hl hc hs k => lv_iload_n hF.1 hF.2.1 hd hi (hl.2.2 i _ hL) k)
theorem J_iload {i : Nat} {z : Int} (hd : decode cc pc = .ok (.iload i, 2)) (hL : L[i]? = some (some (.int (iI z)))) (kk : qJ l G y cc mL rt d (pc + 2) L (.int (iI z) :: st) A F) : qJ l G y cc mL rt d pc L st A F :=
  qJ_st kk (fun _ _ _ _ _ _ _ _ _ _ _ _ _ _ _ _ _ _ hF hH hS hl hc hs k => lv_iload hF.1 hF.2.1 hd (hl.2.2 i _ hL) k)
theorem J_lload_n {n : Fin 4} {i : Nat} {z : Int} (hd : decode cc pc = .ok (.lload_n n, 1)) (hi : (n : Nat) = i) (hL : L[i]? = some (some (.long (iL z)))) (kk : qJ l G y cc mL rt d (pc + 1) L (.long (iL z) :: st) A F) : qJ l G y cc mL rt d pc L st A F :=
  qJ_st kk (fun _ _ _ _ _ _ _ _ _ _ _ _ _ _ _ _ _ _ hF hH hS hl hc hs k => lv_lload_n hF.1 hF.2.1 hd hi (hl.2.2 i _ hL) k)
theorem J_lload {i : Nat} {z : Int} (hd : decode cc pc = .ok (.lload i, 2)) (hL : L[i]? = some (some (.long (iL z)))) (kk : qJ l G y cc mL rt d (pc + 2) L (.long (iL z) :: st) A F) : qJ l G y cc mL rt d pc L st A F :=
  qJ_st kk (fun _ _ _ _ _ _ _ _ _ _ _ _ _ _ _ _ _ _ hF hH hS hl hc hs k => lv_lload hF.1 hF.2.1 hd (hl.2.2 i _ hL) k)
theorem J_aload_n {n : Fin 4} {i : Nat} {v : Value} {x : Nat} (hd : decode cc pc = .ok (.aload_n n, 1)) (hi : (n : Nat) = i) (hL : L[i]? = some (some v)) (hv : cv G v = .ref x) (kk : qJ l G y cc mL rt d (pc + 1) L (v :: st) A F) : qJ l G y cc mL rt d pc L st A F :=
  qJ_st kk (fun _ _ _ _ _ _ _ _ _ _ _ _ _ _ _ _ _ _ hF hH hS hl hc hs k => lv_aload_n hF.1 hF.2.1 hd hi (by rw [hl.2.2 i _ hL, hv]) (by rw [List.map_cons, hv] at k; exact k))
theorem J_aload {i : Nat} {v : Value} {x : Nat} (hd : decode cc pc = .ok (.aload i, 2)) (hL : L[i]? = some (some v)) (hv : cv G v = .ref x) (kk : qJ l G y cc mL rt d (pc + 2) L (v :: st) A F) : qJ l G y cc mL rt d pc L st A F :=
  qJ_st kk (fun _ _ _ _ _ _ _ _ _ _ _ _ _ _ _ _ _ _ hF hH hS hl hc hs k => lv_aload hF.1 hF.2.1 hd (by rw [hl.2.2 i _ hL, hv]) (by rw [List.map_cons, hv] at k; exact k))
theorem J_iadd {a b : Int} (hd : decode cc pc = .ok (.iadd, 1)) (kk : qJ l G y cc mL rt d (pc + 1) L (.int (iI (a + b)) :: st) A F) : qJ l G y cc mL rt d pc L (.int (iI b) :: .int (iI a) :: st) A F :=
  qJ_st kk (fun _ _ _ _ _ _ _ _ _ _ _ _ _ _ _ _ _ _ hF hH hS hl hc hs k => lv_iadd hF.1 hF.2.1 hd (by rw [← iI_add]; exact k))
theorem J_isub {a b : Int} (hd : decode cc pc = .ok (.isub, 1)) (kk : qJ l G y cc mL rt d (pc + 1) L (.int (iI (a - b)) :: st) A F) : qJ l G y cc mL rt d pc L (.int (iI b) :: .int (iI a) :: st) A F :=
  qJ_st kk (fun _ _ _ _ _ _ _ _ _ _ _ _ _ _ _ _ _ _ hF hH hS hl hc hs k => lv_isub hF.1 hF.2.1 hd (by rw [← iI_sub]; exact k))
theorem J_imul {a b : Int} (hd : decode cc pc = .ok (.imul, 1)) (kk : qJ l G y cc mL rt d (pc + 1) L (.int (iI (a * b)) :: st) A F) : qJ l G y cc mL rt d pc L (.int (iI b) :: .int (iI a) :: st) A F :=
  qJ_st kk (fun _ _ _ _ _ _ _ _ _ _ _ _ _ _ _ _ _ _ hF hH hS hl hc hs k => lv_imul hF.1 hF.2.1 hd (by rw [← iI_mul]; exact k))
theorem J_iand {a b : Int} (hd : decode cc pc = .ok (.iand, 1)) (kk : qJ l G y cc mL rt d (pc + 1) L (.int (iI (zand a b)) :: st) A F) : qJ l G y cc mL rt d pc L (.int (iI b) :: .int (iI a) :: st) A F :=
  qJ_st kk (fun _ _ _ _ _ _ _ _ _ _ _ _ _ _ _ _ _ _ hF hH hS hl hc hs k => lv_iand hF.1 hF.2.1 hd (by unfold zand at k; rw [iI_w] at k; exact k))
theorem J_ior {a b : Int} (hd : decode cc pc = .ok (.ior, 1)) (kk : qJ l G y cc mL rt d (pc + 1) L (.int (iI (zor a b)) :: st) A F) : qJ l G y cc mL rt d pc L (.int (iI b) :: .int (iI a) :: st) A F :=
  qJ_st kk (fun _ _ _ _ _ _ _ _ _ _ _ _ _ _ _ _ _ _ hF hH hS hl hc hs k => lv_ior hF.1 hF.2.1 hd (by unfold zor at k; rw [iI_w] at k; exact k))
theorem J_ixor {a b : Int} (hd : decode cc pc = .ok (.ixor, 1)) (kk : qJ l G y cc mL rt d (pc + 1) L (.int (iI (zxor a b)) :: st) A F) : qJ l G y cc mL rt d pc L (.int (iI b) :: .int (iI a) :: st) A F :=
  qJ_st kk (fun _ _ _ _ _ _ _ _ _ _ _ _ _ _ _ _ _ _ hF hH hS hl hc hs k => lv_ixor hF.1 hF.2.1 hd (by unfold zxor at k; rw [iI_w] at k; exact k))
theorem J_ishl {a b : Int} (hd : decode cc pc = .ok (.ishl, 1)) (kk : qJ l G y cc mL rt d (pc + 1) L (.int (iI (zshl a b)) :: st) A F) : qJ l G y cc mL rt d pc L (.int (iI b) :: .int (iI a) :: st) A F :=
  qJ_st kk (fun _ _ _ _ _ _ _ _ _ _ _ _ _ _ _ _ _ _ hF hH hS hl hc hs k => lv_ishl hF.1 hF.2.1 hd (by unfold zshl at k; rw [iI_w] at k; exact k))
theorem J_ishr {a b : Int} (hd : decode cc pc = .ok (.ishr, 1)) (kk : qJ l G y cc mL rt d (pc + 1) L (.int (iI (zshr a b)) :: st) A F) : qJ l G y cc mL rt d pc L (.int (iI b) :: .int (iI a) :: st) A F :=
  qJ_st kk (fun _ _ _ _ _ _ _ _ _ _ _ _ _ _ _ _ _ _ hF hH hS hl hc hs k => lv_ishr hF.1 hF.2.1 hd (by unfold zshr at k; rw [iI_w] at k; exact k))
theorem J_iushr {a b : Int} (hd : decode cc pc = .ok (.iushr, 1)) (kk : qJ l G y cc mL rt d (pc + 1) L (.int (iI (zushr a b)) :: st) A F) : qJ l G y cc mL rt d pc L (.int (iI b) :: .int (iI a) :: st) A F :=
  qJ_st kk (fun _ _ _ _ _ _ _ _ _ _ _ _ _ _ _ _ _ _ hF hH hS hl hc hs k => lv_iushr hF.1 hF.2.1 hd (iI_w _).symm k)
theorem J_ineg {a : Int} (hd : decode cc pc = .ok (.ineg, 1)) (kk : qJ l G y cc mL rt d (pc + 1) L (.int (iI (-a)) :: st) A F) : qJ l G y cc mL rt d pc L (.int (iI a) :: st) A F :=
  qJ_st kk (fun _ _ _ _ _ _ _ _ _ _ _ _ _ _ _ _ _ _ hF hH hS hl hc hs k => lv_ineg hF.1 hF.2.1 hd (by rw [← iI_neg]; exact k))
theorem J_ladd {a b : Int} (hd : decode cc pc = .ok (.ladd, 1)) (kk : qJ l G y cc mL rt d (pc + 1) L (.long (iL (a + b)) :: st) A F) : qJ l G y cc mL rt d pc L (.long (iL b) :: .long (iL a) :: st) A F :=
  qJ_st kk (fun _ _ _ _ _ _ _ _ _ _ _ _ _ _ _ _ _ _ hF hH hS hl hc hs k => lv_ladd hF.1 hF.2.1 hd (by rw [← iL_add]; exact k))
theorem J_lmul {a b : Int} (hd : decode cc pc = .ok (.lmul, 1)) (kk : qJ l G y cc mL rt d (pc + 1) L (.long (iL (a * b)) :: st) A F) : qJ l G y cc mL rt d pc L (.long (iL b) :: .long (iL a) :: st) A F :=
  qJ_st kk (fun _ _ _ _ _ _ _ _ _ _ _ _ _ _ _ _ _ _ hF hH hS hl hc hs k => lv_lmul hF.1 hF.2.1 hd (by rw [← iL_mul]; exact k))
theorem J_land {a b : Int} (hd : decode cc pc = .ok (.land, 1)) (kk : qJ l G y cc mL rt d (pc + 1) L (.long (iL (yand a b)) :: st) A F) : qJ l G y cc mL rt d pc L (.long (iL b) :: .long (iL a) :: st) A F :=
  qJ_st kk (fun _ _ _ _ _ _ _ _ _ _ _ _ _ _ _ _ _ _ hF hH hS hl hc hs k => lv_land hF.1 hF.2.1 hd (by unfold yand at k; rw [iL_w] at k; exact k))
theorem J_lshl {a b : Int} (hd : decode cc pc = .ok (.lshl, 1)) (kk : qJ l G y cc mL rt d (pc + 1) L (.long (iL (yshl a b)) :: st) A F) : qJ l G y cc mL rt d pc L (.int (iI b) :: .long (iL a) :: st) A F :=
  qJ_st kk (fun _ _ _ _ _ _ _ _ _ _ _ _ _ _ _ _ _ _ hF hH hS hl hc hs k => lv_lshl hF.1 hF.2.1 hd (iL_w _).symm k)
theorem J_i2l {a : Int} (hd : decode cc pc = .ok (.i2l, 1)) (kk : qJ l G y cc mL rt d (pc + 1) L (.long (iL (w32 a)) :: st) A F) : qJ l G y cc mL rt d pc L (.int (iI a) :: st) A F :=
  qJ_st kk (fun _ _ _ _ _ _ _ _ _ _ _ _ _ _ _ _ _ _ hF hH hS hl hc hs k => lv_i2l hF.1 hF.2.1 hd (iL_i2l a) k)
theorem J_l2i {a : Int} (hd : decode cc pc = .ok (.l2i, 1)) (kk : qJ l G y cc mL rt d (pc + 1) L (.int (iI a) :: st) A F) : qJ l G y cc mL rt d pc L (.long (iL a) :: st) A F :=
  qJ_st kk (fun _ _ _ _ _ _ _ _ _ _ _ _ _ _ _ _ _ _ hF hH hS hl hc hs k => lv_l2i hF.1 hF.2.1 hd (iI_l2i a) k)
theorem J_i2b {a : Int} (hd : decode cc pc = .ok (.i2b, 1)) (kk : qJ l G y cc mL rt d (pc + 1) L (.int (iI (zi2b a)) :: st) A F) : qJ l G y cc mL rt d pc L (.int (iI a) :: st) A F :=
  qJ_st kk (fun _ _ _ _ _ _ _ _ _ _ _ _ _ _ _ _ _ _ hF hH hS hl hc hs k => lv_i2b hF.1 hF.2.1 hd (iI_w _).symm k)
theorem J_lcmp {a b : Int} (hd : decode cc pc = .ok (.lcmp, 1)) (kk : qJ l G y cc mL rt d (pc + 1) L (.int (iI (ycmp a b)) :: st) A F) : qJ l G y cc mL rt d pc L (.long (iL b) :: .long (iL a) :: st) A F :=
  qJ_st kk (fun _ _ _ _ _ _ _ _ _ _ _ _ _ _ _ _ _ _ hF hH hS hl hc hs k => W.lcmp hF.1 hF.2.1 hd (by rw [iI_cmp]; exact k))
theorem J_dup {v : Value} (hd : decode cc pc = .ok (.dup, 1)) (hv : v.category = 1) (kk : qJ l G y cc mL rt d (pc + 1) L (v :: v :: st) A F) : qJ l G y cc mL rt d pc L (v :: st) A F :=
  qJ_st kk (fun _ _ _ _ _ _ _ _ _ _ _ _ _ _ _ _ _ _ hF hH hS hl hc hs k => lv_dup hF.1 hF.2.1 hd (by rw [cv_cat]; exact hv) k)
theorem J_pop {v : Value} (hd : decode cc pc = .ok (.pop, 1)) (hv : v.category = 1) (kk : qJ l G y cc mL rt d (pc + 1) L st A F) : qJ l G y cc mL rt d pc L (v :: st) A F :=
  qJ_st kk (fun _ _ _ _ _ _ _ _ _ _ _ _ _ _ _ _ _ _ hF hH hS hl hc hs k => lv_pop hF.1 hF.2.1 hd (by rw [cv_cat]; exact hv) k)
theorem J_dup2 {v u : Value} (hd : decode cc pc = .ok (.dup2, 1)) (hv : v.category = 1) (hu : u.category = 1) (kk : qJ l G y cc mL rt d (pc + 1) L (v :: u :: v :: u :: st) A F) : qJ l G y cc mL rt d pc L (v :: u :: st) A F :=
  qJ_st kk (fun _ _ _ _ _ _ _ _ _ _ _ _ _ _ _ _ _ _ hF hH hS hl hc hs k => lv_dup2_11 hF.1 hF.2.1 hd (by rw [cv_cat]; exact hv) (by rw [cv_cat]; exact hu) k)
theorem J_dup2L {z : Int} (hd : decode cc pc = .ok (.dup2, 1)) (kk : qJ l G y cc mL rt d (pc + 1) L (.long (iL z) :: .long (iL z) :: st) A F) : qJ l G y cc mL rt d pc L (.long (iL z) :: st) A F :=
  qJ_st kk (fun _ _ _ _ _ _ _ _ _ _ _ _ _ _ _ _ _ _ hF hH hS hl hc hs k => lv_dup2_2 hF.1 hF.2.1 hd rfl k)
theorem J_idiv {a b : Int} (hd : decode cc pc = .ok (.idiv, 1)) (kk : qJ l G y cc mL rt d (pc + 1) L (.int (iI (zdiv a b)) :: st) A F) : qJ l G y cc mL rt d pc L (.int (iI b) :: .int (iI a) :: st) A (if w32 b = 0 then none else F) := by
  by_cases h : w32 b = 0
  · rw [if_pos h]; exact qJ_none
  · rw [if_neg h]
    exact qJ_st kk (fun _ _ _ _ _ _ _ _ _ _ _ _ _ _ _ _ _ _ hF hH hS hl hc hs k => lv_idiv hF.1 hF.2.1 hd (fun e => h (by unfold w32; rw [e]; rfl)) (by unfold zdiv at k; rw [iI_w] at k; exact k))
theorem J_irem {a b : Int} (hd : decode cc pc = .ok (.irem, 1)) (kk : qJ l G y cc mL rt d (pc + 1) L (.int (iI (zrem a b)) :: st) A F) : qJ l G y cc mL rt d pc L (.int (iI b) :: .int (iI a) :: st) A (if w32 b = 0 then none else F) := by
  by_cases h : w32 b = 0
  · rw [if_pos h]; exact qJ_none
  · rw [if_neg h]
    exact qJ_st kk (fun _ _ _ _ _ _ _ _ _ _ _ _ _ _ _ _ _ _ hF hH hS hl hc hs k => lv_irem hF.1 hF.2.1 hd (fun e => h (by unfold w32; rw [e]; rfl)) (by unfold zrem at k; rw [iI_w] at k; exact k))
theorem J_ldiv {a b : Int} (hd : decode cc pc = .ok (.ldiv, 1)) (kk : qJ l G y cc mL rt d (pc + 1) L (.long (iL (ydiv a b)) :: st) A F) : qJ l G y cc mL rt d pc L (.long (iL b) :: .long (iL a) :: st) A (if w64 b = 0 then none else F) := by
  by_cases h : w64 b = 0
  · rw [if_pos h]; exact qJ_none
  · rw [if_neg h]
    exact qJ_st kk (fun _ _ _ _ _ _ _ _ _ _ _ _ _ _ _ _ _ _ hF hH hS hl hc hs k => lv_ldiv hF.1 hF.2.1 hd (fun e => h (by unfold w64; rw [e]; rfl)) (by unfold ydiv at k; rw [iL_w] at k; exact k))
theorem J_lrem {a b : Int} (hd : decode cc pc = .ok (.lrem, 1)) (kk : qJ l G y cc mL rt d (pc + 1) L (.long (iL (yrem a b)) :: st) A F) : qJ l G y cc mL rt d pc L (.long (iL b) :: .long (iL a) :: st) A (if w64 b = 0 then none else F) := by
  by_cases h : w64 b = 0
  · rw [if_pos h]; exact qJ_none
  · rw [if_neg h]
    exact qJ_st kk (fun _ _ _ _ _ _ _ _ _ _ _ _ _ _ _ _ _ _ hF hH hS hl hc hs k => lv_lrem hF.1 hF.2.1 hd (fun e => h (by unfold w64; rw [e]; rfl)) (by unfold yrem at k; rw [iL_w] at k; exact k))
theorem J_icmp_eq {a b : Int} {off : Int} {tgt : Nat} (hd : decode cc pc = .ok (.if_icmp .eq off, 3)) (ht : (pc : Int) + off = (tgt : Int)) (kt : w32 a = w32 b → qJ l G y cc mL rt d tgt L st A F1) (kf : ¬ w32 a = w32 b → qJ l G y cc mL rt d (pc + 3) L st A F2) : qJ l G y cc mL rt d pc L (.int (iI b) :: .int (iI a) :: st) A (if w32 a = w32 b then F1 else F2) := by
  by_cases h : w32 a = w32 b
  · rw [if_pos h]; exact qJ_st (kt h) (fun _ _ _ _ _ _ _ _ _ _ _ _ _ _ _ _ _ _ hF hH hS hl hc hs k => lv_icmp_eq hF.1 hF.2.1 hd ht (fun _ => k) (fun q => absurd (iI_eq.mpr h) q))
  · rw [if_neg h]; exact qJ_st (kf h) (fun _ _ _ _ _ _ _ _ _ _ _ _ _ _ _ _ _ _ hF hH hS hl hc hs k => lv_icmp_eq hF.1 hF.2.1 hd ht (fun q => absurd q (fun z => h (iI_eq.mp z))) (fun _ => k))
theorem J_icmp_ne {a b : Int} {off : Int} {tgt : Nat} (hd : decode cc pc = .ok (.if_icmp .ne off, 3)) (ht : (pc : Int) + off = (tgt : Int)) (kt : ¬ w32 a = w32 b → qJ l G y cc mL rt d tgt L st A F2) (kf : w32 a = w32 b → qJ l G y cc mL rt d (pc + 3) L st A F1) : qJ l G y cc mL rt d pc L (.int (iI b) :: .int (iI a) :: st) A (if w32 a = w32 b then F1 else F2) := by
  by_cases h : w32 a = w32 b
  · rw [if_pos h]; exact qJ_st (kf h) (fun _ _ _ _ _ _ _ _ _ _ _ _ _ _ _ _ _ _ hF hH hS hl hc hs k => lv_icmp_ne hF.1 hF.2.1 hd ht (fun q => absurd q (fun z => z (iI_eq.mpr h))) (fun _ => k))
  · rw [if_neg h]; exact qJ_st (kt h) (fun _ _ _ _ _ _ _ _ _ _ _ _ _ _ _ _ _ _ hF hH hS hl hc hs k => lv_icmp_ne hF.1 hF.2.1 hd ht (fun _ => k) (fun q => absurd q (fun z => h (iI_eq.mp z))))
theorem J_icmp_lt {a b : Int} {off : Int} {tgt : Nat} (hd : decode cc pc = .ok (.if_icmp .lt off, 3)) (ht : (pc : Int) + off = (tgt : Int)) (kt : w32 a < w32 b → qJ l G y cc mL rt d tgt L st A F1) (kf : ¬ w32 a < w32 b → qJ l G y cc mL rt d (pc + 3) L st A F2) : qJ l G y cc mL rt d pc L (.int (iI b) :: .int (iI a) :: st) A (if w32 a < w32 b then F1 else F2) := by
  by_cases h : w32 a < w32 b
  · rw [if_pos h]; exact qJ_st (kt h) (fun _ _ _ _ _ _ _ _ _ _ _ _ _ _ _ _ _ _ hF hH hS hl hc hs k => lv_icmp_lt hF.1 hF.2.1 hd ht (fun _ => k) (fun q => absurd (iI_lt.mpr h) q))
  · rw [if_neg h]; exact qJ_st (kf h) (fun _ _ _ _ _ _ _ _ _ _ _ _ _ _ _ _ _ _ hF hH hS hl hc hs k => lv_icmp_lt hF.1 hF.2.1 hd ht (fun q => absurd q (fun z => h (iI_lt.mp z))) (fun _ => k))
theorem J_icmp_ge {a b : Int} {off : Int} {tgt : Nat} (hd : decode cc pc = .ok (.if_icmp .ge off, 3)) (ht : (pc : Int) + off = (tgt : Int)) (kt : ¬ w32 a < w32 b → qJ l G y cc mL rt d tgt L st A F2) (kf : w32 a < w32 b → qJ l G y cc mL rt d (pc + 3) L st A F1) : qJ l G y cc mL rt d pc L (.int (iI b) :: .int (iI a) :: st) A (if w32 a < w32 b then F1 else F2) := by
  by_cases h : w32 a < w32 b
  · rw [if_pos h]; exact qJ_st (kf h) (fun _ _ _ _ _ _ _ _ _ _ _ _ _ _ _ _ _ _ hF hH hS hl hc hs k => lv_icmp_ge hF.1 hF.2.1 hd ht (fun q => absurd q (fun z => Int32.not_le.mpr (iI_lt.mpr h) z)) (fun _ => k))
  · rw [if_neg h]; exact qJ_st (kt h) (fun _ _ _ _ _ _ _ _ _ _ _ _ _ _ _ _ _ _ hF hH hS hl hc hs k => lv_icmp_ge hF.1 hF.2.1 hd ht (fun _ => k) (fun q => absurd (Int32.not_lt.mp (fun z => h (iI_lt.mp z))) q))
theorem J_icmp_gt {a b : Int} {off : Int} {tgt : Nat} (hd : decode cc pc = .ok (.if_icmp .gt off, 3)) (ht : (pc : Int) + off = (tgt : Int)) (kt : w32 b < w32 a → qJ l G y cc mL rt d tgt L st A F1) (kf : ¬ w32 b < w32 a → qJ l G y cc mL rt d (pc + 3) L st A F2) : qJ l G y cc mL rt d pc L (.int (iI b) :: .int (iI a) :: st) A (if w32 b < w32 a then F1 else F2) := by
  by_cases h : w32 b < w32 a
  · rw [if_pos h]; exact qJ_st (kt h) (fun _ _ _ _ _ _ _ _ _ _ _ _ _ _ _ _ _ _ hF hH hS hl hc hs k => lv_icmp_gt hF.1 hF.2.1 hd ht (fun _ => k) (fun q => absurd (iI_lt.mpr h) q))
  · rw [if_neg h]; exact qJ_st (kf h) (fun _ _ _ _ _ _ _ _ _ _ _ _ _ _ _ _ _ _ hF hH hS hl hc hs k => lv_icmp_gt hF.1 hF.2.1 hd ht (fun q => absurd q (fun z => h (iI_lt.mp z))) (fun _ => k))
theorem J_icmp_le {a b : Int} {off : Int} {tgt : Nat} (hd : decode cc pc = .ok (.if_icmp .le off, 3)) (ht : (pc : Int) + off = (tgt : Int)) (kt : ¬ w32 b < w32 a → qJ l G y cc mL rt d tgt L st A F2) (kf : w32 b < w32 a → qJ l G y cc mL rt d (pc + 3) L st A F1) : qJ l G y cc mL rt d pc L (.int (iI b) :: .int (iI a) :: st) A (if w32 b < w32 a then F1 else F2) := by
  by_cases h : w32 b < w32 a
  · rw [if_pos h]; exact qJ_st (kf h) (fun _ _ _ _ _ _ _ _ _ _ _ _ _ _ _ _ _ _ hF hH hS hl hc hs k => lv_icmp_le hF.1 hF.2.1 hd ht (fun q => absurd q (fun z => Int32.not_le.mpr (iI_lt.mpr h) z)) (fun _ => k))
  · rw [if_neg h]; exact qJ_st (kt h) (fun _ _ _ _ _ _ _ _ _ _ _ _ _ _ _ _ _ _ hF hH hS hl hc hs k => lv_icmp_le hF.1 hF.2.1 hd ht (fun _ => k) (fun q => absurd (Int32.not_lt.mp (fun z => h (iI_lt.mp z))) q))
theorem J_if_eq {a : Int} {off : Int} {tgt : Nat} (hd : decode cc pc = .ok (.ifCond .eq off, 3)) (ht : (pc : Int) + off = (tgt : Int)) (kt : w32 a = 0 → qJ l G y cc mL rt d tgt L st A F1) (kf : ¬ w32 a = 0 → qJ l G y cc mL rt d (pc + 3) L st A F2) : qJ l G y cc mL rt d pc L (.int (iI a) :: st) A (if w32 a = 0 then F1 else F2) := by
  by_cases h : w32 a = 0
  · rw [if_pos h]; exact qJ_st (kt h) (fun _ _ _ _ _ _ _ _ _ _ _ _ _ _ _ _ _ _ hF hH hS hl hc hs k => lv_if_eq hF.1 hF.2.1 hd ht (fun _ => k) (fun q => absurd (iI_eq0.mpr h) q))
  · rw [if_neg h]; exact qJ_st (kf h) (fun _ _ _ _ _ _ _ _ _ _ _ _ _ _ _ _ _ _ hF hH hS hl hc hs k => lv_if_eq hF.1 hF.2.1 hd ht (fun q => absurd q (fun z => h (iI_eq0.mp z))) (fun _ => k))
theorem J_if_ne {a : Int} {off : Int} {tgt : Nat} (hd : decode cc pc = .ok (.ifCond .ne off, 3)) (ht : (pc : Int) + off = (tgt : Int)) (kt : ¬ w32 a = 0 → qJ l G y cc mL rt d tgt L st A F2) (kf : w32 a = 0 → qJ l G y cc mL rt d (pc + 3) L st A F1) : qJ l G y cc mL rt d pc L (.int (iI a) :: st) A (if w32 a = 0 then F1 else F2) := by
  by_cases h : w32 a = 0
  · rw [if_pos h]; exact qJ_st (kf h) (fun _ _ _ _ _ _ _ _ _ _ _ _ _ _ _ _ _ _ hF hH hS hl hc hs k => lv_if_ne hF.1 hF.2.1 hd ht (fun q => absurd q (fun z => z (iI_eq0.mpr h))) (fun _ => k))
  · rw [if_neg h]; exact qJ_st (kt h) (fun _ _ _ _ _ _ _ _ _ _ _ _ _ _ _ _ _ _ hF hH hS hl hc hs k => lv_if_ne hF.1 hF.2.1 hd ht (fun _ => k) (fun q => absurd q (fun z => h (iI_eq0.mp z))))
theorem J_if_lt {a : Int} {off : Int} {tgt : Nat} (hd : decode cc pc = .ok (.ifCond .lt off, 3)) (ht : (pc : Int) + off = (tgt : Int)) (kt : w32 a < 0 → qJ l G y cc mL rt d tgt L st A F1) (kf : ¬ w32 a < 0 → qJ l G y cc mL rt d (pc + 3) L st A F2) : qJ l G y cc mL rt d pc L (.int (iI a) :: st) A (if w32 a < 0 then F1 else F2) := by
  by_cases h : w32 a < 0
  · rw [if_pos h]; exact qJ_st (kt h) (fun _ _ _ _ _ _ _ _ _ _ _ _ _ _ _ _ _ _ hF hH hS hl hc hs k => lv_if_lt hF.1 hF.2.1 hd ht (fun _ => k) (fun q => absurd (iI_lt0.mpr h) q))
  · rw [if_neg h]; exact qJ_st (kf h) (fun _ _ _ _ _ _ _ _ _ _ _ _ _ _ _ _ _ _ hF hH hS hl hc hs k => lv_if_lt hF.1 hF.2.1 hd ht (fun q => absurd q (fun z => h (iI_lt0.mp z))) (fun _ => k))
theorem J_if_ge {a : Int} {off : Int} {tgt : Nat} (hd : decode cc pc = .ok (.ifCond .ge off, 3)) (ht : (pc : Int) + off = (tgt : Int)) (kt : ¬ w32 a < 0 → qJ l G y cc mL rt d tgt L st A F2) (kf : w32 a < 0 → qJ l G y cc mL rt d (pc + 3) L st A F1) : qJ l G y cc mL rt d pc L (.int (iI a) :: st) A (if w32 a < 0 then F1 else F2) := by
  by_cases h : w32 a < 0
  · rw [if_pos h]; exact qJ_st (kf h) (fun _ _ _ _ _ _ _ _ _ _ _ _ _ _ _ _ _ _ hF hH hS hl hc hs k => lv_if_ge hF.1 hF.2.1 hd ht (fun q => absurd q (fun z => Int32.not_le.mpr (iI_lt0.mpr h) z)) (fun _ => k))
  · rw [if_neg h]; exact qJ_st (kt h) (fun _ _ _ _ _ _ _ _ _ _ _ _ _ _ _ _ _ _ hF hH hS hl hc hs k => lv_if_ge hF.1 hF.2.1 hd ht (fun _ => k) (fun q => absurd (Int32.not_lt.mp (fun z => h (iI_lt0.mp z))) q))
theorem J_if_gt {a : Int} {off : Int} {tgt : Nat} (hd : decode cc pc = .ok (.ifCond .gt off, 3)) (ht : (pc : Int) + off = (tgt : Int)) (kt : 0 < w32 a → qJ l G y cc mL rt d tgt L st A F1) (kf : ¬ 0 < w32 a → qJ l G y cc mL rt d (pc + 3) L st A F2) : qJ l G y cc mL rt d pc L (.int (iI a) :: st) A (if 0 < w32 a then F1 else F2) := by
  by_cases h : 0 < w32 a
  · rw [if_pos h]; exact qJ_st (kt h) (fun _ _ _ _ _ _ _ _ _ _ _ _ _ _ _ _ _ _ hF hH hS hl hc hs k => lv_if_gt hF.1 hF.2.1 hd ht (fun _ => k) (fun q => absurd (iI_0lt.mpr h) q))
  · rw [if_neg h]; exact qJ_st (kf h) (fun _ _ _ _ _ _ _ _ _ _ _ _ _ _ _ _ _ _ hF hH hS hl hc hs k => lv_if_gt hF.1 hF.2.1 hd ht (fun q => absurd q (fun z => h (iI_0lt.mp z))) (fun _ => k))
theorem J_if_le {a : Int} {off : Int} {tgt : Nat} (hd : decode cc pc = .ok (.ifCond .le off, 3)) (ht : (pc : Int) + off = (tgt : Int)) (kt : ¬ 0 < w32 a → qJ l G y cc mL rt d tgt L st A F2) (kf : 0 < w32 a → qJ l G y cc mL rt d (pc + 3) L st A F1) : qJ l G y cc mL rt d pc L (.int (iI a) :: st) A (if 0 < w32 a then F1 else F2) := by
  by_cases h : 0 < w32 a
  · rw [if_pos h]; exact qJ_st (kf h) (fun _ _ _ _ _ _ _ _ _ _ _ _ _ _ _ _ _ _ hF hH hS hl hc hs k => lv_if_le hF.1 hF.2.1 hd ht (fun q => absurd q (fun z => Int32.not_le.mpr (iI_0lt.mpr h) z)) (fun _ => k))
  · rw [if_neg h]; exact qJ_st (kt h) (fun _ _ _ _ _ _ _ _ _ _ _ _ _ _ _ _ _ _ hF hH hS hl hc hs k => lv_if_le hF.1 hF.2.1 hd ht (fun _ => k) (fun q => absurd (Int32.not_lt.mp (fun z => h (iI_0lt.mp z))) q))
theorem J_goto {off : Int} {tgt : Nat} (hd : decode cc pc = .ok (.goto off, 3)) (ht : (pc : Int) + off = (tgt : Int)) (kk : qJ l G y cc mL rt d tgt L st A F) : qJ l G y cc mL rt d pc L st A F :=
  qJ_st kk (fun _ _ _ _ _ _ _ _ _ _ _ _ _ _ _ _ _ _ hF hH hS hl hc hs k => lv_goto hF.1 hF.2.1 hd ht k)
theorem J_swIn {a : Int} {dflt lo hi : Int} {offs : Array Int} {len : Nat} {off : Int} {tgt : Nat} {j : Int} (hd : decode cc pc = .ok (.tableswitch dflt lo hi offs, len)) (ha : w32 a = j) (h1 : lo ≤ j) (h2 : j ≤ hi) (ho : offs[(j - lo).toNat]? = some off) (ht : (pc : Int) + off = (tgt : Int)) (kk : qJ l G y cc mL rt d tgt L st A F) : qJ l G y cc mL rt d pc L (.int (iI a) :: st) A F :=
  qJ_st kk (fun _ _ _ _ _ _ _ _ _ _ _ _ _ _ _ _ _ _ hF hH hS hl hc hs k => lv_tableIn hF.1 hF.2.1 hd (by show ¬ w32 a < lo; omega) (by show ¬ hi < w32 a; omega) (by show offs[(w32 a - lo).toNat]? = _; rw [ha]; exact ho) ht k)
theorem J_swOut {a : Int} {dflt lo hi : Int} {offs : Array Int} {len : Nat} {tgt : Nat} (hd : decode cc pc = .ok (.tableswitch dflt lo hi offs, len)) (ha : w32 a < lo ∨ hi < w32 a) (ht : (pc : Int) + dflt = (tgt : Int)) (kk : qJ l G y cc mL rt d tgt L st A F) : qJ l G y cc mL rt d pc L (.int (iI a) :: st) A F :=
  qJ_st kk (fun _ _ _ _ _ _ _ _ _ _ _ _ _ _ _ _ _ _ hF hH hS hl hc hs k => lv_tableOut hF.1 hF.2.1 hd ha ht k)
theorem J_istore_n {n : Fin 4} {i : Nat} {z : Int} (hd : decode cc pc = .ok (.istore_n n, 1)) (hi : (n : Nat) = i) (hn : i < mL) (ok : okS L i = true) (hL : L.set i (some (Value.int (iI z))) = L') (kk : qJ l G y cc mL rt d (pc + 1) L' st A F) : qJ l G y cc mL rt d pc L (Value.int (iI z) :: st) A F := by
  subst hL
  exact qJ_sl kk (fun _ _ _ _ _ _ _ _ _ _ _ _ _ _ _ hx hb hl k => lv_istore_n hx hb hd hi hl.has hn rfl (fun ls' h => k ls' (qL.st1 (a := (Value.int (iI z))) ok h)))
theorem J_istore {i : Nat} {z : Int} (hd : decode cc pc = .ok (.istore i, 2)) (hn : i < mL) (ok : okS L i = true) (hL : L.set i (some (Value.int (iI z))) = L') (kk : qJ l G y cc mL rt d (pc + 2) L' st A F) : qJ l G y cc mL rt d pc L (Value.int (iI z) :: st) A F := by
  subst hL
  exact qJ_sl kk (fun _ _ _ _ _ _ _ _ _ _ _ _ _ _ _ hx hb hl k => lv_istore hx hb hd hl.has hn rfl (fun ls' h => k ls' (qL.st1 (a := (Value.int (iI z))) ok h)))
theorem J_lstore_n {n : Fin 4} {i : Nat} {z : Int} (hd : decode cc pc = .ok (.lstore_n n, 1)) (hi : (n : Nat) = i) (hn : i + 1 < mL) (ok : okS L i = true) (hL : (L.set i (some (Value.long (iL z)))).set (i + 1) none = L') (kk : qJ l G y cc mL rt d (pc + 1) L' st A F) : qJ l G y cc mL rt d pc L (Value.long (iL z) :: st) A F := by
  subst hL
  exact qJ_sl kk (fun _ _ _ _ _ _ _ _ _ _ _ _ _ _ _ hx hb hl k => lv_lstore_n hx hb hd hi hl.has hn rfl (fun ls' h => k ls' (qL.st2 (a := (Value.long (iL z))) ok h)))
theorem J_lstore {i : Nat} {z : Int} (hd : decode cc pc = .ok (.lstore i, 2)) (hn : i + 1 < mL) (ok : okS L i = true) (hL : (L.set i (some (Value.long (iL z)))).set (i + 1) none = L') (kk : qJ l G y cc mL rt d (pc + 2) L' st A F) : qJ l G y cc mL rt d pc L (Value.long (iL z) :: st) A F := by
  subst hL
  exact qJ_sl kk (fun _ _ _ _ _ _ _ _ _ _ _ _ _ _ _ hx hb hl k => lv_lstore hx hb hd hl.has hn rfl (fun ls' h => k ls' (qL.st2 (a := (Value.long (iL z))) ok h)))
theorem J_astore_n {n : Fin 4} {i k : Nat} (hd : decode cc pc = .ok (.astore_n n, 1)) (hi : (n : Nat) = i) (hn : i < mL) (ok : okS L i = true) (hL : L.set i (some (.ref k)) = L') (kk : qJ l G y cc mL rt d (pc + 1) L' st A F) : qJ l G y cc mL rt d pc L (.ref k :: st) A F := by
  subst hL
  exact qJ_sl kk (fun _ _ _ _ _ _ _ _ _ _ _ _ _ _ _ hx hb hl k9 => lv_astore_n hx hb hd hi hl.has hn rfl (fun ls' h => k9 ls' (qL.st1 (a := .ref k) ok h)))
theorem J_astore {i k : Nat} (hd : decode cc pc = .ok (.astore i, 2)) (hn : i < mL) (ok : okS L i = true) (hL : L.set i (some (.ref k)) = L') (kk : qJ l G y cc mL rt d (pc + 2) L' st A F) : qJ l G y cc mL rt d pc L (.ref k :: st) A F := by
  subst hL
  exact qJ_sl kk (fun _ _ _ _ _ _ _ _ _ _ _ _ _ _ _ hx hb hl k9 => lv_astore hx hb hd hl.has hn rfl (fun ls' h => k9 ls' (qL.st1 (a := .ref k) ok h)))
theorem J_iinc {i : Nat} {n z : Int} (hd : decode cc pc = .ok (.iinc i n, 3)) (hv : L[i]? = some (some (.int (iI z)))) (hn : i < mL) (ok : okS L i = true) (hL : L.set i (some (.int (iI (z + n)))) = L') (kk : qJ l G y cc mL rt d (pc + 3) L' st A F) : qJ l G y cc mL rt d pc L st A F := by
  subst hL
  refine qJ_sl kk (fun _ _ _ _ _ _ _ _ _ _ _ _ _ _ _ hx hb hl k => ?_)
  obtain ⟨q, hq⟩ := List.getElem?_of_mem (prs_in (G := G) hv)
  exact lv_iinc hx hb hd hl.has hq (iI_add z n).symm hn rfl (fun ls' h => k ls' (qL.st1 (a := .int (iI (z + n))) ok h))
theorem J_drop (hL : ∀ (i : Nat) (v : Value), L'[i]? = some (some v) → L[i]? = some (some v)) (kk : qJ l G y cc mL rt d pc L' st A F) : qJ l G y cc mL rt d pc L st A F :=
  fun r B hF => by
    obtain ⟨h1, h2, k⟩ := kk r B hF
    exact ⟨h1, h2, fun p e R s m args below meth c Q n0 s0 H locs cells slots ls hFr hH hS hl hc hs hK => k p e R s m args below meth c Q n0 s0 H locs cells slots ls hFr hH hS ⟨hl.1, hl.2.1, fun i v h => hl.2.2 i v (hL i v h)⟩ hc hs hK⟩
theorem J_ret {r : Option Value} {i : Instr} (hd : decode cc pc = .ok (i, 1)) (hr : qRet rt i r) (hst : st = r.toList) : qJ l G y cc mL rt d pc L st A (some (r, A)) := by
  intro r' B h
  cases h
  subst hst
  exact ⟨Nat.le_refl _, Nat.le_refl _, fun p e R s m args below meth c Q n0 s0 H locs cells slots ls hFr hH hS hl hc hs hK => hK H locs cells slots pc ls i hd hr hH hS hc hs⟩
end JR
