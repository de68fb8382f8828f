section JH
variable {l : Launch} {G : qG} {y : MethodName} {cc : ByteArray} {mL d : Nat} {rt : Option FieldType} {pc : Nat} {L L' : List (Option Value)} {st : List Value} {A : qH} {F : Option (Option Value × qH)}
theorem J_getfield {ci k N idx j : Nat} {C : String} {T : u_T} {fs : List Value} {v : Value} (hc : qcl[ci]? = some (C, T, N)) (hin : ∀ w ∈ u_ws C T N, w ∈ qws) (hk : k < N) (hw : Cond.fieldLink y.cls idx (T k).1 (T k).2.1 (T k).2.2.1 ∈ qws) (hd : decode cc pc = .ok (.getfield idx, 3)) (hA : A[j]? = some (.inr (ci, fs))) (hv : fs[k]? = some v)
    (kk : qJ l G y cc mL rt d (pc + 3) L (v :: st) A F) : qJ l G y cc mL rt d pc L (.ref j :: st) A F :=
  qJ_st kk (fun _ _ _ _ _ _ _ _ _ _ _ _ _ _ _ _ _ _ hF hH hS hl _ _ k9 => va_get hF.1 hF.2.1 hF.2.2.2.2.1 hin hF.2.2.2.1 hF.2.2.2.2.2.2.1.1 hH.1 j (wo_get hA) hc k hk (hF.2.2.2.2.1 _ hw) (fun _ h => h) (v := cv G v) (by rw [List.getElem?_map, hv]; rfl) hd k9)
theorem J_put_aux {ci k N j : Nat} {fs : List Value} {v : Value} {H H1 : Heap} {D : va_G} {C : String} {T : u_T} (hP : va_P D qcl (wo G A) H) (hA : A[j]? = some (.inr (ci, fs))) (hc : qcl[ci]? = some (C, T, N)) (hl : k < fs.length) (h1 : t_OB (G.1 + j) (D.1 ci) N (D.2 ci) H1 (updV (vp_V (fs.map (cv G))) k (cv G v))) (oq : ∀ q, q ≠ G.1 + j → H1[q]? = H[q]?) : va_P D qcl (wo G (A.set j (.inr (ci, fs.set k v)))) H1 := by
  rw [← wo_set]
  refine hP.set wo_D (wo_get hA) ⟨_, hc, ?_⟩ oq
  refine t_OB.to h1 (fun q _ => ?_)
  show _ = vp_V ((fs.set k v).map (cv G)) q
  rw [vp_updV_set (by rw [List.length_map]; exact hl), List.map_set]
theorem J_putfield {ci k N idx j : Nat} {C : String} {T : u_T} {fs : List Value} {v : Value} (hc : qcl[ci]? = some (C, T, N)) (hin : ∀ w ∈ u_ws C T N, w ∈ qws) (hk : k < N) (hw : Cond.fieldLink y.cls idx (T k).1 (T k).2.1 (T k).2.2.1 ∈ qws) (ty0 : Nat → FieldType) (hty : ∀ k, k < N → parseFieldDescriptor (T k).2.2.1 = some (ty0 k)) (hnm : ∀ a, a < N → ∀ b, b < N → a ≠ b → (T a).2.1 ≠ (T b).2.1) (hfin : (T k).2.2.2 = false)
    (hd : decode cc pc = .ok (.putfield idx, 3)) (hA : A[j]? = some (.inr (ci, fs))) (hl : k < fs.length) (hn : narrow (ty0 k) (cv G v) = cv G v) (hfit : fits (ty0 k) (cv G v) = true)
    (kk : qJ l G y cc mL rt d (pc + 3) L st (A.set j (.inr (ci, fs.set k v))) F) : qJ l G y cc mL rt d pc L (v :: .ref j :: st) A F := by
  refine qJ_sh (List.length_set ..) (sl_set hA (by simp [cs])) kk (fun p e R s m args below meth c Q n0 s0 H locs cells slots ls B hF hH hS hl9 k9 => ?_)
  have hts := hF.2.2.2.2.1
  have hK := hF.2.2.2.2.2.2.1.1
  have hap := va_apart (own := y.cls) hts hin ty0 hty hnm hK hc
  obtain ⟨r, h1, cell, q1, q2, q3, q4⟩ := hH.1 j _ (wo_get hA)
  have hr : r = (C, T, N) := Option.some.inj (h1.symm.trans hc)
  subst hr
  obtain ⟨hSl, hfc, kC, hkC, hkind⟩ := hK.1 ci _ hc
  obtain ⟨cf, kf, fi, f, hi, hsl⟩ := hSl k hk
  have hlay := hts _ (hin _ (u_in_lay hk))
  unfold u_lay at hlay
  rw [if_neg (by rw [hfin]; decide)] at hlay
  have hst := (u_facts hfc hkC (u_lays hts hin hk) hi).1
  have h6 := u_store hfc hkC hkind hlay hi (hty k hk) hn hfit
  refine W.putK hF.1 hF.2.1 (f := f) ⟨hF.2.2.2.1, hts _ hw, ⟨_, _, _, hi⟩, hst⟩ (by rw [q2]; exact h6) q1 q3 (by rw [hsl]; exact k2_hasslot (q4 k hk)) rfl rfl hd fun H' e1 e2 e3 => ?_
  rw [hsl] at e1 ⊢
  exact k9 H' _ (J_put_aux hH.1 hA hc hl ⟨_, e1, q2, q3, t_set q4 hap hk _⟩ e3) (Or.inl e2) (hS.put e2 e3 (Nat.le_add_right _ _))
theorem J_putfinal {ci k N idx j : Nat} {C : String} {T : u_T} {fs : List Value} {v : Value} (hc : qcl[ci]? = some (C, T, N)) (hin : ∀ w ∈ u_ws C T N, w ∈ qws) (hk : k < N) (hw : Cond.fieldLink y.cls idx (T k).1 (T k).2.1 (T k).2.2.1 ∈ qws) (ty0 : Nat → FieldType) (hty : ∀ k, k < N → parseFieldDescriptor (T k).2.2.1 = some (ty0 k)) (hnm : ∀ a, a < N → ∀ b, b < N → a ≠ b → (T a).2.1 ≠ (T b).2.1) (hfin : (T k).2.2.2 = true) (hyn : y.name = "<init>") (hdecl : (T k).1 = y.cls)
    (hd : decode cc pc = .ok (.putfield idx, 3)) (hA : A[j]? = some (.inr (ci, fs))) (hl : k < fs.length) (hn : narrow (ty0 k) (cv G v) = cv G v) (hfit : fits (ty0 k) (cv G v) = true)
    (kk : qJ l G y cc mL rt d (pc + 3) L st (A.set j (.inr (ci, fs.set k v))) F) : qJ l G y cc mL rt d pc L (v :: .ref j :: st) A F := by
  refine qJ_sh (List.length_set ..) (sl_set hA (by simp [cs])) kk (fun p e R s m args below meth c Q n0 s0 H locs cells slots ls B hF hH hS hl9 k9 => ?_)
  have hts := hF.2.2.2.2.1
  have hK := hF.2.2.2.2.2.2.1.1
  have hap := va_apart (own := y.cls) hts hin ty0 hty hnm hK hc
  obtain ⟨r, h1, cell, q1, q2, q3, q4⟩ := hH.1 j _ (wo_get hA)
  have hr : r = (C, T, N) := Option.some.inj (h1.symm.trans hc)
  subst hr
  obtain ⟨hSl, hfc, kC, hkC, hkind⟩ := hK.1 ci _ hc
  obtain ⟨cf, kf, fi, f, hi, hsl⟩ := hSl k hk
  have hlay := hts _ (hin _ (u_in_lay hk))
  unfold u_lay at hlay
  rw [if_pos hfin] at hlay
  have hst := (u_facts hfc hkC (u_lays hts hin hk) hi).1
  have hcf : m.cls = cf := by
    obtain ⟨_, _, c', _, _, _, -, -, hf', -, -, -, hown2, -⟩ := Cond.laysFinal_spec hlay
    have e1 : c' = cf := by have := hi.symm.trans hf'; simp at this; exact this.1.symm
    rw [hdecl] at hown2
    rw [← e1]; exact Option.some.inj (hF.2.2.2.1.symm.trans hown2)
  have h6 := u_fits hfc hkC hkind (Or.inr hlay) hi (hty k hk) hn hfit
  refine W.putFinK hF.1 hF.2.1 hF.2.2.2.1 (hts _ hw) hi hst hcf (hF.2.2.2.2.2.1 hyn) (by rw [q2]; exact h6) q1 q3 (by rw [hsl]; exact k2_hasslot (q4 k hk)) rfl rfl hd fun H' e1 e2 e3 => ?_
  rw [hsl] at e1 ⊢
  exact k9 H' _ (J_put_aux hH.1 hA hc hl ⟨_, e1, q2, q3, t_set q4 hap hk _⟩ e3) (Or.inl e2) (hS.put e2 e3 (Nat.le_add_right _ _))
theorem J_iaload {j n : Nat} {f : Nat → Int32} {a z : Int} (hd : decode cc pc = .ok (.iaload, 1)) (hA : A[j]? = some (.inl (0, n, .inl f))) (hin : 0 ≤ w32 a ∧ w32 a < n) (hz : f (w32 a).toNat = iI z)
    (kk : qJ l G y cc mL rt d (pc + 1) L (.int (iI z) :: st) A F) : qJ l G y cc mL rt d pc L (.int (iI a) :: .ref j :: st) A F :=
  qJ_st kk (fun _ _ _ _ _ _ _ _ _ _ _ _ _ _ _ _ _ _ hF hH hS hl _ _ k9 => va_iald hF.1 hF.2.1 hF.2.2.2.2.2.2.1.1 hH.1 j 0 (wo_get hA) rfl (vpin_w.mpr hin) hd (by rw [clamp_w, hz]; exact k9))
theorem J_baload {j n : Nat} {f : Nat → Int32} {a z : Int} (hd : decode cc pc = .ok (.baload, 1)) (hA : A[j]? = some (.inl (1, n, .inl f))) (hin : 0 ≤ w32 a ∧ w32 a < n) (hz : f (w32 a).toNat = iI z)
    (kk : qJ l G y cc mL rt d (pc + 1) L (.int (iI z) :: st) A F) : qJ l G y cc mL rt d pc L (.int (iI a) :: .ref j :: st) A F :=
  qJ_st kk (fun _ _ _ _ _ _ _ _ _ _ _ _ _ _ _ _ _ _ hF hH hS hl _ _ k9 => va_bald hF.1 hF.2.1 hF.2.2.2.2.2.2.1.1 hH.1 j 1 (wo_get hA) rfl (vpin_w.mpr hin) hd (by rw [clamp_w, hz]; exact k9))
theorem J_roload {j : Nat} {a z : Int} (hd : decode cc pc = .ok (.iaload, 1)) (hj : j < 3) (hin : 0 ≤ w32 a ∧ w32 a < (roC G j).1) (hz : (roC G j).2 (w32 a).toNat = iI z)
    (kk : qJ l G y cc mL rt d (pc + 1) L (.int (iI z) :: st) A F) : qJ l G y cc mL rt d pc L (.int (iI a) :: .retAddr j :: st) A F :=
  qJ_st kk (fun _ _ _ _ _ _ _ _ _ _ _ _ _ _ _ _ _ _ hF hH hS hl _ _ k9 => va_ti hF.1 hF.2.1 (hF.2.2.2.2.2.2.1.2.1 j hj) hS (vpin_w.mpr hin) (v := .int (iI z)) (by rw [clamp_w, hz]) hd k9)
theorem J_rolen {j : Nat} {z : Int} (hd : decode cc pc = .ok (.arraylength, 1)) (hj : j < 3) (hz : Int32.ofNat (roC G j).1 = iI z)
    (kk : qJ l G y cc mL rt d (pc + 1) L (.int (iI z) :: st) A F) : qJ l G y cc mL rt d pc L (.retAddr j :: st) A F :=
  qJ_st kk (fun _ _ _ _ _ _ _ _ _ _ _ _ _ _ _ _ _ _ hF hH hS hl _ _ k9 => va_tlen hF.1 hF.2.1 (hF.2.2.2.2.2.2.1.2.1 j hj) hS hz hd k9)
theorem J_alen {j t n : Nat} {ty : FieldType} {z : Int} {x : (Nat → Int32) ⊕ (Nat → Int64) ⊕ (Nat → UInt32) ⊕ (Nat → UInt64) ⊕ (Nat → Option Nat)} (hd : decode cc pc = .ok (.arraylength, 1)) (hA : A[j]? = some (.inl (t, n, x))) (ht : (qty G)[t]? = some (G.2.2.2.2 t, ty)) (hz : Int32.ofNat n = iI z)
    (kk : qJ l G y cc mL rt d (pc + 1) L (.int (iI z) :: st) A F) : qJ l G y cc mL rt d pc L (.ref j :: st) A F :=
  qJ_st kk (fun _ _ _ _ _ _ _ _ _ _ _ _ _ _ _ _ _ _ hF hH hS hl _ _ k9 => va_alen hF.1 hF.2.1 hF.2.2.2.2.2.2.1.1 hH.1 j t (wo_get hA) ht hz hd k9)
theorem J_aaload {j t n i : Nat} {C : String} {f : Nat → Option Nat} {a : Int} (hd : decode cc pc = .ok (.aaload, 1)) (hA : A[j]? = some (.inl (t, n, .inr (.inr (.inr (.inr f)))))) (ht : (qty G)[t]? = some (G.2.2.2.2 t, .object C)) (hin : 0 ≤ w32 a ∧ w32 a < n) (hz : f (w32 a).toNat = some i)
    (kk : qJ l G y cc mL rt d (pc + 1) L (.ref i :: st) A F) : qJ l G y cc mL rt d pc L (.int (iI a) :: .ref j :: st) A F :=
  qJ_st kk (fun _ _ _ _ _ _ _ _ _ _ _ _ _ _ _ _ _ _ hF hH hS hl _ _ k9 => va_aldq hF.1 hF.2.1 hF.2.2.2.2.2.2.1.1 hH.1 j t (wo_get hA) ht (vpin_w.mpr hin) hd (by rw [clamp_w, hz]; exact k9))
theorem J_getstatic {idx j : Nat} {n : String} (hd : decode cc pc = .ok (.getstatic idx, 3)) (hj : (j = 1 ∧ n = "LETTERS") ∨ (j = 2 ∧ n = "KIND_ABOVE")) (hw : Cond.fieldLinkNest y.cls idx "SunRopes" n "[I" "SunRopes" ∈ qnw)
    (kk : qJ l G y cc mL rt d (pc + 3) L (.retAddr j :: st) A F) : qJ l G y cc mL rt d pc L st A F :=
  qJ_st kk (fun _ _ _ _ _ _ _ _ _ _ _ _ _ _ _ _ _ _ hF hH hS hl _ _ k9 => by
    have h5 := hF.2.2.2.2.2.2.1.2.2.2.2.1 _ hw
    rcases hj with ⟨rfl, rfl⟩ | ⟨rfl, rfl⟩
    · exact va_getsN hF.1 hF.2.1 hF.2.2.2.2.2.2.1.2.2.1 hS hF.2.2.2.1 (va_Nw.use rfl h5) (fun _ h => h) hd k9
    · exact va_getsN hF.1 hF.2.1 hF.2.2.2.2.2.2.1.2.2.2.1 hS hF.2.2.2.1 (va_Nw.use rfl h5) (fun _ h => h) hd k9)
theorem J_iastore {j n : Nat} {f : Nat → Int32} {a z : Int} (hd : decode cc pc = .ok (.iastore, 1)) (hA : A[j]? = some (.inl (0, n, .inl f))) (hin : 0 ≤ w32 a ∧ w32 a < n)
    (kk : qJ l G y cc mL rt d (pc + 1) L st (A.set j (.inl (0, n, .inl (upd f (w32 a).toNat (iI z))))) F) : qJ l G y cc mL rt d pc L (.int (iI z) :: .int (iI a) :: .ref j :: st) A F := by
  refine qJ_sh (List.length_set ..) (sl_set hA (by simp [cs])) kk (fun p e R s m args below meth c Q n0 s0 H locs cells slots ls B hF hH hS hl9 k9 => ?_)
  have hK := hF.2.2.2.2.2.2.1.1
  refine W.iast hF.1 hF.2.1 (hH.1 j _ (wo_get hA)) ((hK.2 0 _ rfl).1 n (fun j => .int (f j))) (fun q => by cases q) (by show ¬ (_ ∨ (arrV _ _ _).slots.size ≤ _); rw [arrV_size]; exact vpin_w.mpr hin) rfl rfl hd fun H1 e1 z1 oq => ?_
  refine k9 H1 _ ?_ (Or.inl z1) (hS.put z1 oq (Nat.le_add_right _ _))
  rw [← wo_set]
  refine hH.1.set wo_D (wo_get hA) ?_ oq
  show H1[G.1 + j]? = some (vp_cell _ _)
  rw [e1]
  show some ((vp_cell (G.2.2.2.2 0) (n, .inl f)).setSlot (iI a).toNatClampNeg (.int (iI z))) = some (vp_cell (G.2.2.2.2 0) (n, .inl (upd f (w32 a).toNat (iI z))))
  rw [vp_cell_i, vp_cell_i, arrV_store]
  congr 2
  funext q
  by_cases hq : q = (w32 a).toNat
  · subst hq
    simp [updV, upd, clamp_w]
  · simp [updV, upd, clamp_w, hq]
theorem J_bastore {j n : Nat} {f : Nat → Int32} {a z : Int} (hq : qN ≤ A.length) (hd : decode cc pc = .ok (.bastore, 1)) (hA : A[j]? = some (.inl (1, n, .inl f))) (hin : 0 ≤ w32 a ∧ w32 a < n)
    (kk : qJ l G y cc mL rt d (pc + 1) L st (A.set j (.inl (1, n, .inl (upd f (w32 a).toNat (iI (zi2b z)))))) F) : qJ l G y cc mL rt d pc L (.int (iI z) :: .int (iI a) :: .ref j :: st) A F := by
  refine qJ_sh (List.length_set ..) (sl_set hA (by simp [cs])) kk (fun p e R s m args below meth c Q n0 s0 H locs cells slots ls B hF hH hS hl9 k9 => ?_)
  refine va_bast hF.1 hF.2.1 hF.2.2.2.2.2.2.1.1 hH.1 wo_D hS j 1 (wo_get hA) rfl (vpin_w.mpr hin) hd (fun H1 locs1 hP hD hS1 => k9 H1 locs1 ?_ (Or.inr hq) hS1)
  rw [← wo_set]
  rw [vp_nar_byte] at hP
  unfold zi2b
  rw [iI_w]
  exact hP
theorem J_copy {idx j j' n n' : Nat} {f f' : Nat → Int32} {sp dp m : Int} (hq : qN ≤ A.length) (hd1 : 1 ≤ d) (hw : Cond.methodLink y.cls idx arraycopyName ∈ qws) (hst : (st.map Value.category).sum ≤ 8) (hd : decode cc pc = .ok (.invokestatic idx, 3)) (hA : A[j]? = some (.inl (0, n, .inl f))) (hA' : A[j']? = some (.inl (0, n', .inl f')))
    (h1 : 0 ≤ w32 sp) (h2 : 0 ≤ w32 dp) (h3 : 0 ≤ w32 m) (h4 : w32 sp + w32 m ≤ n) (h5 : w32 dp + w32 m ≤ n')
    (kk : qJ l G y cc mL rt d (pc + 3) L st (A.set j' (.inl (0, n', .inl (va_cpy f f' (w32 sp).toNat (w32 dp).toNat (w32 m).toNat)))) F) : qJ l G y cc mL rt d pc L (.int (iI m) :: .int (iI dp) :: .ref j' :: .int (iI sp) :: .ref j :: st) A F := by
  refine qJ_sh (List.length_set ..) (sl_set hA' (by simp [cs])) kk (fun p e R s m9 args below meth c Q n0 s0 H locs cells slots ls B hF hH hS hl9 k9 => ?_)
  have hts := hF.2.2.2.2.1
  have hfr := hF.2.2.2.2.2.2.2.1
  have hlo := hF.2.2.2.2.2.2.2.2.1
  refine va_copyi (ty := .int) hF.1 hF.2.1 (hF.2.2.1.trans hl9.1.symm) hF.2.2.2.1 (hts _ hw) (hts _ nm_arraycopyName) (hts _ sm_arraycopyName) (hts _ ini_J10) hF.2.2.2.2.2.2.1.1 hH.1 wo_D hS j j' 0 0 (wo_get hA) (wo_get hA') rfl rfl rfl
    (fun q => absurd (iI_lt0.mp q) (by omega)) (fun q => absurd (iI_lt0.mp q) (by omega)) (fun q => absurd (iI_lt0.mp q) (by omega)) (by rw [clamp_w, clamp_w]; omega) (by rw [clamp_w, clamp_w]; omega) (fun i _ => rfl) (by omega) ?_ hd (fun H1 locs1 hP hD hS1 => k9 H1 locs1 ?_ (Or.inr hq) hS1)
  · have e : (List.map (fun v => v.category) (List.map (cv G) st)) = st.map Value.category := by rw [List.map_map]; exact List.map_congr_left (fun v _ => cv_cat G v)
    have e2 : nativeFrameWords "java/lang/System" "arraycopy" 5 ≤ 40 := by decide +kernel
    rw [e]; omega
  · rw [← wo_set]
    exact hP
theorem J_max {idx : Nat} {a b : Int} (hd1 : 1 ≤ d) (hw : Cond.methodLink y.cls idx Lib.Math.max.name ∈ qws) (hst : (st.map Value.category).sum ≤ 8) (hd : decode cc pc = .ok (.invokestatic idx, 3))
    (kk : qJ l G y cc mL rt d (pc + 3) L (.int (iI (zmax a b)) :: st) A F) : qJ l G y cc mL rt d pc L (.int (iI b) :: .int (iI a) :: st) A F :=
  qJ_st kk (fun _ _ _ _ _ _ _ _ _ _ _ _ _ _ _ _ _ _ hF hH hS hl hc hs k9 => by
    have hts := hF.2.2.2.2.1
    have hfr := hF.2.2.2.2.2.2.2.1
    have hlo := hF.2.2.2.2.2.2.2.2.1
    have e : (List.map (fun v => v.category) (List.map (cv G) st)) = st.map Value.category := by rw [List.map_map]; exact List.map_congr_left (fun v _ => cv_cat G v)
    exact va_mmax hF.1 hF.2.1 (hF.2.2.1.trans hl.1.symm) hF.2.2.2.1 (hts _ hw) (hts _ sm_yJ9_max_7cf53) (hts _ ini_J9) (hts _ (show Cond.code Lib.Math.max.name Lib.Math.max.code 2 (some .int) ∈ qws from cd_yJ9_max_7cf53)) (by omega) (by rw [e]; omega) hc hs hd (by rw [iI_max]; exact k9))
theorem J_min {idx : Nat} {a b : Int} (hd1 : 1 ≤ d) (hw : Cond.methodLink y.cls idx Lib.Math.min.name ∈ qws) (hst : (st.map Value.category).sum ≤ 8) (hd : decode cc pc = .ok (.invokestatic idx, 3))
    (kk : qJ l G y cc mL rt d (pc + 3) L (.int (iI (zmin a b)) :: st) A F) : qJ l G y cc mL rt d pc L (.int (iI b) :: .int (iI a) :: st) A F :=
  qJ_st kk (fun _ _ _ _ _ _ _ _ _ _ _ _ _ _ _ _ _ _ hF hH hS hl hc hs k9 => by
    have hts := hF.2.2.2.2.1
    have hfr := hF.2.2.2.2.2.2.2.1
    have hlo := hF.2.2.2.2.2.2.2.2.1
    have e : (List.map (fun v => v.category) (List.map (cv G) st)) = st.map Value.category := by rw [List.map_map]; exact List.map_congr_left (fun v _ => cv_cat G v)
    exact va_mmin hF.1 hF.2.1 (hF.2.2.1.trans hl.1.symm) hF.2.2.2.1 (hts _ hw) (hts _ sm_yJ9_min_7cf53) (hts _ ini_J9) (hts _ (show Cond.code Lib.Math.min.name Lib.Math.min.code 2 (some .int) ∈ qws from cd_yJ9_min_7cf53)) (by omega) (by rw [e]; omega) hc hs hd (by rw [iI_min]; exact k9))
end JH
