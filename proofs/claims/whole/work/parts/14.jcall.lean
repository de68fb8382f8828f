/-! ===== contracts ===== -/
def qPre (G : qG) (vs : List Value) (A : qH) : Array Value → State → Prop := fun a U => a = (vs.map (cv G)).toArray ∧ SR G U ∧ HR G A U.heap
def qPost (G : qG) (r : Option Value) (B : qH) : Array Value → State → Outcome → State → Prop := fun _ st o t => o = .returned (r.map (cv G)) ∧ HR G B t.heap ∧ va_F (fun q => G.1 ≤ q) st t
def qRm (d : Nat) (A B : qH) : Room := { frames := d, cells := B.length - A.length, slots := sl B - sl A, locals := 64 * d }
def qM (l : Launch) (G : qG) (d : Nat) (y : MethodName) (cc : ByteArray) (mL : Nat) (rt : Option FieldType) (vs : List Value) (A : qH) (F : Option (Option Value × qH)) : Prop :=
  ∀ (r : Option Value) (B : qH), F = some (r, B) → A.length ≤ B.length ∧ sl A ≤ sl B ∧ Met l y (Cond.code y cc mL rt :: qws) (qRm d A B) (qPre G vs A) (qPost G r B) (B.length - A.length) (sl B - sl A) (fun q => G.1 ≤ q)
theorem qPre_blind {G : qG} {vs : List Value} {A : qH} : FrameBlind (qPre G vs A) := fun a U g mk q => ⟨q.1, SR.move (U := U.calling g mk a) q.2.1 (State.WarmedH.refl U) (Nat.le_refl _) (fun _ _ _ => rfl), q.2.2⟩
theorem q_good {w : Cond} (h : w ∈ qws) : GoodIn qws (w :: qws) := fun v hv => by
  rcases List.mem_cons.mp hv with rfl | hv
  · exact ⟨h, qws_good _ h⟩
  · exact ⟨hv, qws_good _ hv⟩
def qEnt : Nat → List Value → List (Option Value)
  | n, [] => List.replicate n none
  | n, v :: vs => if v.category = 2 then some v :: none :: qEnt (n - 2) vs else some v :: qEnt (n - 1) vs
theorem qEnt_args (G : qG) : ∀ (vs : List Value) (n k i : Nat) (v : Value), (qEnt n vs)[i]? = some (some v) → (k + i, cv G v) ∈ lv_args k (vs.map (cv G)) := by
  intro vs
  induction vs with
  | nil =>
    intro n k i v h
    simp only [qEnt, List.getElem?_replicate] at h
    split at h <;> cases h
  | cons u vs ih =>
    intro n k i v h
    simp only [qEnt] at h
    simp only [List.map_cons, lv_args, cv_cat]
    by_cases hc : u.category = 2
    · rw [if_pos hc] at h ⊢
      match i, h with
      | 0, h => cases h; exact List.mem_cons_self
      | 1, h => cases h
      | i + 2, h =>
        have h9 := ih (n - 2) (k + 2) i v h
        rw [show k + (i + 2) = k + 2 + i by omega]
        exact List.mem_cons_of_mem _ h9
    · rw [if_neg hc] at h ⊢
      match i, h with
      | 0, h => cases h; exact List.mem_cons_self
      | i + 1, h =>
        have h9 := ih (n - 1) (k + 1) i v h
        rw [show k + (i + 1) = k + 1 + i by omega]
        exact List.mem_cons_of_mem _ h9
theorem qEnt_L (G : qG) {vs : List Value} {n : Nat} (h : (lg_sl (vs.map (cv G))).length ≤ n) : qL G ((lg_sl (vs.map (cv G)) ++ List.replicate (n - (lg_sl (vs.map (cv G))).length) Slot.unset).toArray) n (qEnt n vs) := by
  obtain ⟨h1, h2, h3⟩ := lv_entry (vs.map (cv G)) h
  refine ⟨h1, h2, fun i v hv => ?_⟩
  have h4 := qEnt_args G vs n 0 i v hv
  rw [Nat.zero_add] at h4
  exact h3 _ h4
theorem lg_len (G : qG) (vs : List Value) : (lg_sl (vs.map (cv G))).length = (vs.map Value.category).sum := by
  induction vs with
  | nil => rfl
  | cons v vs ih =>
    unfold lg_sl at ih ⊢
    rw [List.map_cons, List.flatMap_cons, List.length_append, ih, List.map_cons, List.sum_cons, cv_cat]
    rcases lv_cat v with h | h <;> simp [h]
section JC
variable {l : Launch} {G : qG} {y : MethodName} {cc : ByteArray} {mL d : Nat} {rt : Option FieldType} {pc : Nat} {L L' : List (Option Value)} {st : List Value} {A : qH} {F : Option (Option Value × qH)}
theorem qM_of {vs : List Value} (hy : plainName y.cls = true) (hn : (vs.map Value.category).sum ≤ mL) (hL : qEnt mL vs = L) (hJ : qJ l G y cc mL rt d 0 L [] A F) : qM l G d y cc mL rt vs A F := by
  subst hL
  intro r B hF
  obtain ⟨h1, h2, k⟩ := hJ r B hF
  refine ⟨h1, h2, ?_⟩
  refine Met.ofW (cc := cc) (maxL := mL) (ret := rt) hy rfl ?_
  intro p e s m args below meth c s₁ Bd hml hv
  obtain ⟨rfl, hSR, hHR⟩ := hv
  have hlen : (lg_sl (vs.map (cv G))).length ≤ mL := by rw [lg_len]; exact hn
  have hts : ∀ w ∈ qws, w.before (vs.map (cv G)).toArray s = true := fun w hw => atoms_spec (ws := Cond.code y cc mL rt :: qws) Bd.pre w (List.mem_cons_of_mem _ hw)
  have hname : meth.name = y.name := (name_of_methodNamed Bd.named Bd.method).1
  have hlocks := Bd.notSynchronized
  rw [lg_entry_eq]
  refine k p e _ s m _ below meth c _ A.length (sl A) s.heap [] 0 0 _ ⟨Bd.exec, Bd.bytes, hml, findClass_of_methodNamed Bd.named, hts, fun h => hname.trans h, hSR, Nat.le_refl _, Nat.le_refl _, ?_, ?_⟩ hHR va_S.rf (qEnt_L G hlen) (Nat.zero_add _) (Nat.zero_add _) ?_
  · show B.length ≤ A.length + (B.length - A.length); omega
  · show sl B ≤ sl A + (sl B - sl A); omega
  · intro H locs cells slots pc ls i hd hr hH hS hc hs
    have e1 : cells = B.length - A.length := by omega
    have e2 : slots = sl B - sl A := by omega
    subst e1
    subst e2
    rcases hr with ⟨rfl, x, ty, rfl, e3, e4⟩ | ⟨rfl, e3, x, rfl⟩ | ⟨rfl, e3, rfl⟩
    · exact W.zret Bd.exec Bd.bytes (by rw [Bd.returns, e3]) e4 (fun t ht hW => ⟨rfl, by rw [ht]; exact hH, hS.F ht⟩) hS.2.2 hd
    · exact W.lret Bd.exec Bd.bytes (by rw [Bd.returns, e3]) (fun t ht hW => ⟨rfl, by rw [ht]; exact hH, hS.F ht⟩) hS.2.2 hd
    · exact W.vret Bd.exec Bd.bytes (by rw [Bd.returns, e3]) (fun t ht hW => ⟨rfl, by rw [ht]; exact hH, hS.F ht⟩) hS.2.2 hd
/-- behind a call -/
theorem J_run {y' : MethodName} {cc' : ByteArray} {mL' d' : Nat} {rt' : Option FieldType} {vs : List Value} {st0 : List Value} {Fc : Option (Option Value × qH)} (hM : qM l G d' y' cc' mL' rt' vs A Fc)
    (hne : Fc = none → F = none) (kk : ∀ r A1, Fc = some (r, A1) → qJ l G y cc mL rt d (pc + 3) L (r.toList ++ st) A1 F)
    (hrun : ∀ (p : Program) (e : Env) (R : Room) (s : State) (m : MethodId) (args : Array Value) (below : List Frame) (meth : Method) (c : Code) (n0 s0 : Nat) (H : Heap) (locs : List Loc) (cells slots : Nat) (ls : Array Slot) (B A1 : qH) (r1 : Option Value) (mc ms : Nat),
      qF G y cc mL d B p R s m args meth c n0 s0 → HR G A H → va_S (fun q => G.1 ≤ q) s.heap H locs → qL G ls mL L → cells + mc ≤ R.cells → slots + ms ≤ R.slots → Met l y' (Cond.code y' cc' mL' rt' :: qws) { frames := d', cells := mc, slots := ms, locals := 64 * d' } (qPre G vs A) (qPost G r1 A1) mc ms (fun q => G.1 ≤ q) →
      ∃ a : Array Value, va_Run p l e R s m args below meth c H locs cells slots mc ms (F0 m pc ls (st0.map (cv G))) (st.map (cv G)) (qPost G r1 A1 a) (fun q => G.1 ≤ q)) :
    qJ l G y cc mL rt d pc L st0 A F := by
  intro r B hF
  cases hFc : Fc with
  | none => rw [hne hFc] at hF; cases hF
  | some q1 =>
    obtain ⟨r1, A1⟩ := q1
    obtain ⟨m1, m2, M⟩ := hM r1 A1 hFc
    obtain ⟨h1, h2, kw⟩ := kk r1 A1 hFc r B hF
    refine ⟨Nat.le_trans m1 h1, Nat.le_trans m2 h2, fun p e R s m args below meth c Q n0 s0 H locs cells slots ls hFr hH hS hl hc hs hK => ?_⟩
    have a1 := hFr.2.2.2.2.2.2.2.2.2.1
    have a2 := hFr.2.2.2.2.2.2.2.2.2.2
    obtain ⟨a, run⟩ := hrun p e R s m args below meth c n0 s0 H locs cells slots ls B A1 r1 _ _ hFr hH hS hl (by omega) (by omega) M
    intro T hT X
    obtain ⟨v, st₀, t, T', L9, g0, X', gL, e1, e2, ⟨hv, hH1, hz, hk⟩, stp⟩ := run T hT X
    cases hv
    rw [g0] at hz hk
    obtain ⟨t2, b1, b2⟩ := kw p e R s m args below meth c Q n0 s0 T'.heap (locs ++ L9) (cells + (A1.length - A.length)) (slots + (sl A1 - sl A)) ls hFr (by rw [e1]; exact hH1)
      ⟨Nat.le_trans hS.1 (by rw [e1]; exact hz), fun q g1 g2 => by rw [e1, hk q (Nat.lt_of_lt_of_le g1 hS.1) g2]; exact hS.2.1 q g1 g2, fun q hq => by
        rcases List.mem_append.mp hq with h | h
        · exact hS.2.2 q h
        · exact gL q h⟩ hl (by omega) (by omega) hK T' rfl X'
    refine ⟨t2, stp t2 ?_, b2⟩
    have e3 : (r1.toList ++ st).map (cv G) = (r1.map (cv G)).toList ++ st.map (cv G) := by cases r1 <;> rfl
    rw [e3] at b1
    exact b1
theorem st_cat {G : qG} {st : List Value} : (List.map (fun v => v.category) (List.map (cv G) st)).sum = (st.map Value.category).sum := by
  rw [List.map_map]
  congr 1
  exact List.map_congr_left (fun v _ => cv_cat G v)
theorem J_callV {y' : MethodName} {cc' : ByteArray} {mL' d' idx k ci : Nat} {rt' : Option FieldType} {As : List Value} {q : vw_C} {fs : List Value} {Fc : Option (Option Value × qH)}
    (hi : Cond.instanceMethod y' ∈ qws) (hse : Cond.selects y'.cls y' y' ∈ qws) (hini : Cond.initialized y'.cls ∈ qws) (hcd : Cond.code y' cc' mL' rt' ∈ qws) (hml : mL' ≤ 45)
    (hdd : y'.cls ≠ "java/lang/invoke/MethodHandle" ∧ y'.cls ≠ "java/lang/invoke/VarHandle" ∧ (parseMethodDescriptor y'.desc).map (fun d => d.parameters.length) = some As.length)
    (hw : Cond.methodLink y.cls idx y' ∈ qws) (hd : decode cc pc = .ok (.invokevirtual idx, 3)) (hq : qcl[ci]? = some q) (hqc : q.1 = y'.cls) (hA : A[k]? = some (.inr (ci, fs))) (hdep : d' < d) (hst : (st.map Value.category).sum ≤ 8)
    (hM : qM l G d' y' cc' mL' rt' (.ref k :: As) A Fc)
    (hne : Fc = none → F = none) (kk : ∀ r A1, Fc = some (r, A1) → qJ l G y cc mL rt d (pc + 3) L (r.toList ++ st) A1 F) : qJ l G y cc mL rt d pc L (As.reverse ++ .ref k :: st) A F := by
  refine J_run hM hne kk (fun p e R s m args below meth c n0 s0 H locs cells slots ls B A1 r1 mc ms hF hH hS hl hc hs M => ⟨((Value.ref k :: As).map (cv G)).toArray, ?_⟩)
  have hts := hF.2.2.2.2.1
  have hfr := hF.2.2.2.2.2.2.2.1
  have hlo := hF.2.2.2.2.2.2.2.2.1
  refine va_runV (C := y'.cls) (b := G.1 + k) (As := As.map (cv G)) ⟨hF.1, hF.2.1, hF.2.2.1, hF.2.2.2.1, hts⟩ M ⟨callB_of As.length hts (q_good hcd) rfl rfl rfl (hts _ hini) (hts _ hw) hdd ⟨by show d' + 1 ≤ _; omega, by show _ + 64 * d' ≤ _; omega⟩, hts _ hi, hts _ hse⟩
    ⟨qPre_blind, ?_, fun U hU hW => ⟨rfl, SR.move hF.2.2.2.2.2.2.1 hW (by rw [hU]; exact hS.1) (fun q g1 g2 => by rw [hU]; exact hS.2.1 q g1 g2), by rw [hU]; exact hH⟩⟩ rfl (by rw [List.length_map]) hl.1 ?_ ?_ hd ⟨hc, hs⟩
  · obtain ⟨cell, c1, c2, c3⟩ := va_recv hF.2.2.2.2.2.2.1.1 hH.1 hq (wo_get hA)
    exact ⟨cell, c1, c2, by rw [← hqc]; exact c3⟩
  · show List.map (cv G) (As.reverse ++ .ref k :: st) = _
    rw [List.map_append, List.map_reverse]; rfl
  · show 2 * 0 + _ ≤ 8
    rw [st_cat]; omega
theorem J_callS {y' : MethodName} {cc' : ByteArray} {mL' d' idx : Nat} {rt' : Option FieldType} {As : List Value} {Fc : Option (Option Value × qH)}
    (hi : Cond.static y' ∈ qws) (hini : Cond.initialized y'.cls ∈ qws) (hcd : Cond.code y' cc' mL' rt' ∈ qws) (hml : mL' ≤ 45)
    (hdd : y'.cls ≠ "java/lang/invoke/MethodHandle" ∧ y'.cls ≠ "java/lang/invoke/VarHandle" ∧ (parseMethodDescriptor y'.desc).map (fun d => d.parameters.length) = some As.length)
    (hw : Cond.methodLink y.cls idx y' ∈ qws) (hd : decode cc pc = .ok (.invokestatic idx, 3)) (hdep : d' < d) (hst : (st.map Value.category).sum ≤ 8)
    (hM : qM l G d' y' cc' mL' rt' As A Fc)
    (hne : Fc = none → F = none) (kk : ∀ r A1, Fc = some (r, A1) → qJ l G y cc mL rt d (pc + 3) L (r.toList ++ st) A1 F) : qJ l G y cc mL rt d pc L (As.reverse ++ st) A F := by
  refine J_run hM hne kk (fun p e R s m args below meth c n0 s0 H locs cells slots ls B A1 r1 mc ms hF hH hS hl hc hs M => ⟨(As.map (cv G)).toArray, ?_⟩)
  have hts := hF.2.2.2.2.1
  have hfr := hF.2.2.2.2.2.2.2.1
  have hlo := hF.2.2.2.2.2.2.2.2.1
  refine va_runS (As := As.map (cv G)) ⟨hF.1, hF.2.1, hF.2.2.1, hF.2.2.2.1, hts⟩ M ⟨callB_of As.length hts (q_good hcd) rfl rfl rfl (hts _ hini) (hts _ hw) hdd ⟨by show d' + 1 ≤ _; omega, by show _ + 64 * d' ≤ _; omega⟩, hts _ hi⟩
    ⟨qPre_blind, fun U hU hW => ⟨rfl, SR.move hF.2.2.2.2.2.2.1 hW (by rw [hU]; exact hS.1) (fun q g1 g2 => by rw [hU]; exact hS.2.1 q g1 g2), by rw [hU]; exact hH⟩⟩ rfl (by rw [List.length_map]) hl.1 ?_ ?_ hd ⟨hc, hs⟩
  · show List.map (cv G) (As.reverse ++ st) = _
    rw [List.map_append, List.map_reverse]
  · show 2 * 0 + _ ≤ 8
    rw [st_cat]; omega
theorem J_callI {y' : MethodName} {cc' : ByteArray} {mL' d' idx k : Nat} {Fc : Option (Option Value × qH)}
    (hi : Cond.instanceMethod y' ∈ qws) (hini : Cond.initialized y'.cls ∈ qws) (hcd : Cond.code y' cc' mL' none ∈ qws) (hml : mL' ≤ 45) (hyn : y'.name = "<init>")
    (hdd : y'.cls ≠ "java/lang/invoke/MethodHandle" ∧ y'.cls ≠ "java/lang/invoke/VarHandle" ∧ (parseMethodDescriptor y'.desc).map (fun d => d.parameters.length) = some 0)
    (hw : Cond.methodLink y.cls idx y' ∈ qws ∨ Cond.methodLinkNest y.cls idx y' "SunRopes" ∈ qnw) (hd : decode cc pc = .ok (.invokespecial idx, 3)) (hdep : d' < d) (hst : (st.map Value.category).sum ≤ 8)
    (hM : qM l G d' y' cc' mL' none [.ref k] A Fc)
    (hne : Fc = none → F = none) (kk : ∀ r A1, Fc = some (r, A1) → qJ l G y cc mL rt d (pc + 3) L (r.toList ++ st) A1 F) : qJ l G y cc mL rt d pc L (.ref k :: st) A F := by
  refine J_run hM hne kk (fun p e R s m args below meth c n0 s0 H locs cells slots ls B A1 r1 mc ms hF hH hS hl hc hs M => ⟨([Value.ref k].map (cv G)).toArray, ?_⟩)
  have hts := hF.2.2.2.2.1
  have hfr := hF.2.2.2.2.2.2.2.1
  have hlo := hF.2.2.2.2.2.2.2.2.1
  rcases hw with hw | hw
  · refine va_runI (b := G.1 + k) (As := []) ⟨hF.1, hF.2.1, hF.2.2.1, hF.2.2.2.1, hts⟩ M ⟨callB_of 0 hts (q_good hcd) rfl rfl rfl (hts _ hini) (hts _ hw) hdd ⟨by show d' + 1 ≤ _; omega, by show _ + 64 * d' ≤ _; omega⟩, hyn, hts _ hi⟩
      ⟨qPre_blind, fun U hU hW => ⟨rfl, SR.move hF.2.2.2.2.2.2.1 hW (by rw [hU]; exact hS.1) (fun q g1 g2 => by rw [hU]; exact hS.2.1 q g1 g2), by rw [hU]; exact hH⟩⟩ rfl rfl hl.1 rfl ?_ hd ⟨hc, hs⟩
    show 2 * 0 + _ ≤ 8
    rw [st_cat]; omega
  · refine va_runIN (b := G.1 + k) (As := []) ⟨hF.1, hF.2.1, hF.2.2.1, hF.2.2.2.1, hts⟩ M ⟨va_cnB 0 hts (q_good hcd) rfl rfl rfl (hF.2.2.2.2.2.2.1.2.2.2.2.1 _ hw) (hts _ hini) hdd ⟨by show d' + 1 ≤ _; omega, by show _ + 64 * d' ≤ _; omega⟩, hyn, hts _ hi⟩
      ⟨qPre_blind, fun U hU hW => ⟨rfl, SR.move hF.2.2.2.2.2.2.1 hW (by rw [hU]; exact hS.1) (fun q g1 g2 => by rw [hU]; exact hS.2.1 q g1 g2), by rw [hU]; exact hH⟩⟩ rfl rfl hl.1 rfl ?_ hd ⟨hc, hs⟩
    show 2 * 0 + _ ≤ 8
    rw [st_cat]; omega
theorem J_objInit {idx k : Nat} (hd1 : 1 ≤ d) (hw : Cond.methodLink y.cls idx objectInit ∈ qws) (hst : (st.map Value.category).sum ≤ 8) (hd : decode cc pc = .ok (.invokespecial idx, 3)) (kk : qJ l G y cc mL rt d (pc + 3) L st A F) : qJ l G y cc mL rt d pc L (.ref k :: st) A F :=
  qJ_st kk (fun _ _ _ _ _ _ _ _ _ _ _ _ _ _ _ _ _ _ hF hH hS hl hc hs k9 => by
    have hts := hF.2.2.2.2.1
    have hfr := hF.2.2.2.2.2.2.2.1
    have hlo := hF.2.2.2.2.2.2.2.2.1
    refine W.objInit hF.1 hF.2.1 hF.2.2.2.1 (hts _ hw) (hts _ im_objectInit) (hts _ cd_objectInit) rfl (by rw [hF.2.2.1]; exact hl.1) rfl hd (by omega) ?_ k9
    show 2 * 0 + (List.map (fun v => v.category) (List.map (cv G) st)).sum + 12 ≤ _
    rw [st_cat]; omega)
theorem J_new {ci N idx : Nat} {C : String} {T : u_T} {fs : List Value} (hc : qcl[ci]? = some (C, T, N)) (hin : ∀ w ∈ u_ws C T N, w ∈ qws) (ty0 : Nat → FieldType) (hty : ∀ k, k < N → parseFieldDescriptor (T k).2.2.1 = some (ty0 k)) (hik : Cond.instantiable C N ∈ qws) (hini : Cond.initialized C ∈ qws) (hfs : ∀ j, j < N → defaultValue (ty0 j) = vp_V fs j) (hfl : fs.length = N) (hcv : ∀ G : qG, fs.map (cv G) = fs)
    (hq : A.length < qN) (hw : Cond.classLink y.cls idx C ∈ qws) (hd : decode cc pc = .ok (.new idx, 3)) (kk : qJ l G y cc mL rt d (pc + 3) L (.ref A.length :: st) (A ++ [.inr (ci, fs)]) F) : qJ l G y cc mL rt d pc L st A F := by
  refine qJ_sn hq kk (fun p e R s m args below meth c Q n0 s0 H locs cells slots ls B hF hH hS hl hsz hce hsl k9 => ?_)
  have hts := hF.2.2.2.2.1
  have hKn := hF.2.2.2.2.2.2.1.1.1 ci _ hc
  have hcs : cs (.inr (ci, fs)) = N := hfl
  rw [hcs] at hsl k9
  refine W.newcK hF.1 hF.2.1 hF.2.2.2.1 (hts _ hw) (hts _ hik) (hts _ hini) rfl hd hce hsl hKn.2.1 hsz fun H1 kC hkC e1 z1 o1 => ?_
  refine k9 H1 ⟨_, hc, ?_⟩ (by rw [z1, hsz]) (by rw [hsz]; exact o1)
  rw [hcv G]
  exact (u_born ty0 hts hin hKn hkC e1 hty).to hfs
theorem J_newarray {t N : Nat} {ty : FieldType} {atype : ArrayType} {a : Int} (hq : A.length < qN) (hat : newarray.typeOf atype = ty) (hac : Cond.arrayClass ty ∈ qws) (ht : ∀ G : qG, (qty G)[t]? = some (G.2.2.2.2 t, ty)) (hdef : defaultValue ty = .int 0) (hra : ∀ (U : State) (c : ClassId), va_RA U c ty → U.vm.findClass ("[" ++ ty.toString) = some c) (hd : decode cc pc = .ok (.newarray atype, 2)) (ha : w32 a = N) (hb : N * componentBytes ty ≤ 536870912)
    (kk : qJ l G y cc mL rt d (pc + 2) L (.ref A.length :: st) (A ++ [.inl (t, N, .inl (fun _ => 0))]) F) : qJ l G y cc mL rt d pc L (.int (iI a) :: st) A F := by
  subst hat
  refine qJ_sn hq kk (fun p e R s m args below meth c Q n0 s0 H locs cells slots ls B hF hH hS hl hsz hce hsl k9 => ?_)
  have hts := hF.2.2.2.2.1
  refine va_newaK hF.1 hF.2.1 (hts _ hac) rfl hd rfl (fun q => absurd (iI_lt0.mp q) (by omega)) (N := N) (by rw [clamp_w, ha]; rfl) hb hce hsl hsz fun H1 cA e1 z1 o1 hAr hNm => ?_
  refine k9 H1 ?_ (by rw [z1, hsz]) (by rw [hsz]; exact o1)
  have e2 : cA = G.2.2.2.2 t := Option.some.inj (hNm.symm.trans (hra _ _ (hF.2.2.2.2.2.2.1.1.2 t _ (ht G)).2))
  show H1[G.1 + A.length]? = some (vp_cell _ _)
  rw [e1, e2, hdef]
  rfl
theorem J_anewarray {t N idx : Nat} {C : String} {a : Int} (hq : A.length < qN) (hao : Cond.arrayOver (.object C) ∈ qnw) (ht : ∀ G : qG, (qty G)[t]? = some (G.2.2.2.2 t, .object C)) (hw : Cond.classLink y.cls idx C ∈ qws) (hd : decode cc pc = .ok (.anewarray idx, 3)) (ha : w32 a = N) (hb : N * 4 ≤ 536870912)
    (kk : qJ l G y cc mL rt d (pc + 3) L (.ref A.length :: st) (A ++ [.inl (t, N, .inr (.inr (.inr (.inr (fun _ => none)))))]) F) : qJ l G y cc mL rt d pc L (.int (iI a) :: st) A F := by
  refine qJ_sn hq kk (fun p e R s m args below meth c Q n0 s0 H locs cells slots ls B hF hH hS hl hsz hce hsl k9 => ?_)
  have hts := hF.2.2.2.2.1
  have hN : (iI a).toNatClampNeg = N := by rw [clamp_w, ha]; rfl
  refine W.anew hF.1 hF.2.1 hF.2.2.2.1 (hts _ hw) (hF.2.2.2.2.2.2.1.2.2.2.2.1 _ hao) rfl hd rfl (fun q => absurd (iI_lt0.mp q) (by omega)) (by rw [hN]; exact hb) hce (by rw [hN]; exact hsl) fun cA kA comp f1 f2 f3 f4 => ?_
  rw [hN]
  obtain ⟨kA', comp', g1, g2, g3, g4⟩ := (hF.2.2.2.2.2.2.1.1.2 t _ (ht G)).2
  have e2 : cA = G.2.2.2.2 t := Option.some.inj (f1.symm.trans g4)
  have k8 := k9 (H.push ({ cls := cA, slots := Array.replicate N .null, vm := .none } : Cell)) ?_ (by rw [Array.size_push]) (fun q hq => by rw [Array.getElem?_push, if_neg (Nat.ne_of_lt hq)])
  · rw [hsz]; exact k8
  · show (H.push _)[G.1 + A.length]? = some (vp_cell _ _)
    rw [← hsz, Array.getElem?_push_size, e2, arrV_new]
    rfl
theorem J_aastore {j t n v ci : Nat} {q : vw_C} {fs : List Value} {f : Nat → Option Nat} {a : Int} (hd : decode cc pc = .ok (.aastore, 1)) (hA : A[j]? = some (.inl (t, n, .inr (.inr (.inr (.inr f)))))) (hq : qcl[ci]? = some q) (ht : ∀ G : qG, (qty G)[t]? = some (G.2.2.2.2 t, .object q.1)) (hv : A[v]? = some (.inr (ci, fs))) (hin : 0 ≤ w32 a ∧ w32 a < n)
    (kk : qJ l G y cc mL rt d (pc + 1) L st (A.set j (.inl (t, n, .inr (.inr (.inr (.inr (va_up f (w32 a).toNat (some v)))))))) F) : qJ l G y cc mL rt d pc L (.ref v :: .int (iI a) :: .ref j :: st) A F := by
  refine qJ_sh (List.length_set ..) (sl_set hA (by simp [cs])) kk (fun p e R s m args below meth c Q n0 s0 H locs cells slots ls B hF hH hS hl9 k9 => ?_)
  have hK := hF.2.2.2.2.2.2.1.1
  obtain ⟨r', hr', cellV, g1, g2, g3, -⟩ := hH.1 v _ (wo_get hv)
  have hcls := (hK.1 ci q hq).2
  obtain ⟨kA, comp, k1, k2, k3, -⟩ := (hK.2 t _ (ht G)).2
  have hcomp : comp = G.2.2.2.1.1 ci := Option.some.inj (k3.symm.trans hcls.1)
  subst hcomp
  obtain ⟨kC, hkC, -⟩ := hcls.2
  have hlt : (iI a).toNatClampNeg < n := by rw [clamp_w]; omega
  refine W.aast (j := iI a) hF.1 hF.2.1 (hH.1 j _ (wo_get hA)) (fun q h => by cases h) (fun h => by cases h) k1 k2 rfl hkC ⟨fun z => absurd (iI_lt0.mp z) (by omega), by show _ < (arrV _ _ _).slots.size; rw [arrV_size]; exact hlt⟩ g1 (fun q h => by rw [g3] at h; cases h) (by rw [g2]; exact hkC) (by rw [g2]; exact va_assign hcls) rfl rfl hd fun H1 e1 z1 oq => ?_
  refine k9 H1 _ ?_ (Or.inl z1) (hS.put z1 oq (Nat.le_add_right _ _))
  rw [← wo_set]
  refine hH.1.set wo_D (wo_get hA) ?_ oq
  show H1[G.1 + j]? = some (vp_cell _ _)
  rw [e1]
  show some ((arrV (G.2.2.2.2 t) n (fun j => va_rf ((f j).map (fun k => G.1 + k)))).setSlot (iI a).toNatClampNeg (.ref (G.1 + v))) = some (arrV (G.2.2.2.2 t) n (fun j => va_rf ((va_up f (w32 a).toNat (some v) j).map (fun k => G.1 + k))))
  rw [arrV_store]
  congr 2
  funext q
  by_cases hq : q = (w32 a).toNat
  · subst hq
    simp [updV, va_up, va_rf, clamp_w]
  · simp [updV, va_up, hq, clamp_w]
end JC
