/-! ===== the abstract heap: cells by index; index k lies at address sz + k ===== -/
abbrev qE : Type := (Nat × vp_A) ⊕ (Nat × List Value)
abbrev qH : Type := List qE
abbrev qG : Type := Nat × (Nat → Nat) × (Nat → Nat × (Nat → Int32)) × va_G × (Nat → ClassId)
def cv (G : qG) : Value → Value
  | .ref k => .ref (G.1 + k)
  | .retAddr j => .ref (G.2.1 j)
  | .int x => .int x
  | .long x => .long x
  | .float x => .float x
  | .double x => .double x
  | .null => .null
theorem cv_cat (G : qG) (v : Value) : (cv G v).category = v.category := by cases v <;> rfl
def cC (G : qG) : ((Nat → Int32) ⊕ (Nat → Int64) ⊕ (Nat → UInt32) ⊕ (Nat → UInt64) ⊕ (Nat → Option Nat)) → ((Nat → Int32) ⊕ (Nat → Int64) ⊕ (Nat → UInt32) ⊕ (Nat → UInt64) ⊕ (Nat → Option Nat))
  | .inl f => .inl f
  | .inr (.inl f) => .inr (.inl f)
  | .inr (.inr (.inl f)) => .inr (.inr (.inl f))
  | .inr (.inr (.inr (.inl f))) => .inr (.inr (.inr (.inl f)))
  | .inr (.inr (.inr (.inr f))) => .inr (.inr (.inr (.inr (fun j => (f j).map (fun k => G.1 + k)))))
def cE (G : qG) : qE → va_E
  | .inl (t, n, x) => .inl (G.2.2.2.2 t, n, cC G x)
  | .inr (c, fs) => .inr (c, fs.map (cv G))
def wo (G : qG) (A : qH) : va_W := A.mapIdx (fun k e => (G.1 + k, cE G e))
theorem wo_get {G : qG} {A : qH} {k : Nat} {e : qE} (h : A[k]? = some e) : (wo G A)[k]? = some (G.1 + k, cE G e) := by
  simp [wo, List.getElem?_mapIdx, h]
theorem wo_inv {G : qG} {A : qH} {k : Nat} {x : Nat × va_E} (h : (wo G A)[k]? = some x) : ∃ e, A[k]? = some e ∧ x = (G.1 + k, cE G e) := by
  simp only [wo, List.getElem?_mapIdx] at h
  cases hA : A[k]? with
  | none => rw [hA] at h; cases h
  | some e => rw [hA] at h; cases h; exact ⟨e, rfl, rfl⟩
theorem wo_set {G : qG} {A : qH} {k : Nat} {e : qE} : (wo G A).set k (G.1 + k, cE G e) = wo G (A.set k e) := by
  apply List.ext_getElem?
  intro i
  simp only [wo, List.getElem?_mapIdx, List.getElem?_set, List.length_mapIdx]
  by_cases h : k = i
  · subst h
    by_cases h2 : k < A.length <;> simp [h2]
  · simp [h]
theorem wo_app {G : qG} {A : qH} {e : qE} : wo G (A ++ [e]) = wo G A ++ [(G.1 + A.length, cE G e)] := by
  simp [wo, List.mapIdx_append]
theorem wo_D {G : qG} {A : qH} : va_D (fun q => G.1 ≤ q) (wo G A) := by
  refine ⟨fun i j p q hp hq h => ?_, fun k q hq => ?_⟩
  · obtain ⟨e, -, rfl⟩ := wo_inv hp
    obtain ⟨e', -, rfl⟩ := wo_inv hq
    exact Nat.add_left_cancel h
  · obtain ⟨e, -, rfl⟩ := wo_inv hq
    exact Nat.le_add_right _ _
def cs : qE → Nat
  | .inl (_, n, _) => n
  | .inr (_, fs) => fs.length
def sl (A : qH) : Nat := (A.map cs).sum
theorem sl_app {A : qH} {e : qE} : sl (A ++ [e]) = sl A + cs e := by simp [sl]
theorem sl_set {A : qH} {k : Nat} {e e' : qE} (h : A[k]? = some e) (hc : cs e' = cs e) : sl (A.set k e') = sl A := by
  unfold sl
  congr 1
  apply List.ext_getElem?
  intro i
  rw [List.getElem?_map, List.getElem?_map, List.getElem?_set]
  have hlt : k < A.length := (List.getElem?_eq_some_iff.mp h).1
  by_cases hk : k = i
  · subst hk
    rw [if_pos rfl, if_pos hlt, h]
    simp [hc]
  · simp [hk]
/-! ===== what of the tables is not a good word, but stays ===== -/
def qnw : List Cond := [.methodLinkNest RX9 23 yX4_init "SunRopes", .methodLinkNest RX9 30 yX8_init "SunRopes", .methodLinkNest RX9 37 yX1_init "SunRopes", .methodLinkNest RX9 44 yX2_init "SunRopes", .methodLinkNest RX9 55 yX3_init "SunRopes", .methodLinkNest RX3 11 yX1_init "SunRopes", .methodLinkNest RX6 40 yX1_init "SunRopes", .methodLinkNest RX9 69 yX0_init "SunRopes", .methodLinkNest RX0 11 yX1_init "SunRopes", .methodLinkNest RX9 95 yX5_init "SunRopes", .methodLinkNest RX9 96 yX7_init "SunRopes", .fieldLinkNest RX4 52 "SunRopes" "LETTERS" "[I" "SunRopes", .fieldLinkNest RX8 50 "SunRopes" "KIND_ABOVE" "[I" "SunRopes", .arrayOver (.object "SunRopes$Row"), .arrayOver (.object "SunRopes$Text"), .arrayOver (.object "SunRopes$Diary"), .arrayOver (.object "SunRopes$Day")]
theorem qnw_move {s U : State} (hW : s.WarmedH U.vm) (h : ∀ w ∈ qnw, va_Nw w s) : ∀ w ∈ qnw, va_Nw w U := by
  simp only [qnw, List.forall_mem_cons] at h ⊢
  obtain ⟨h1, h2, h3, h4, h5, h6, h7, h8, h9, h10, h11, h12, h13, h14, h15, h16, h17, -⟩ := h
  exact ⟨va_Nw.warmM hW h1, va_Nw.warmM hW h2, va_Nw.warmM hW h3, va_Nw.warmM hW h4, va_Nw.warmM hW h5, va_Nw.warmM hW h6, va_Nw.warmM hW h7, va_Nw.warmM hW h8, va_Nw.warmM hW h9, va_Nw.warmM hW h10, va_Nw.warmM hW h11, va_Nw.warmF hW h12, va_Nw.warmF hW h13, va_AO.moved hW.alike h14, va_AO.moved hW.alike h15, va_AO.moved hW.alike h16, va_AO.moved hW.alike h17, fun _ h => absurd h List.not_mem_nil⟩
def letZ (i : Nat) : Int := match i with
  | 0 => 99 | 1 => 104 | 2 => 115 | 3 => 110 | 4 => 108 | _ => 103
def abvZ (i : Nat) : Int := match i with
  | 0 => 0 | 1 => 0 | 2 => 0 | 3 => 0 | 4 => 3 | _ => 2
def roC (G : qG) (j : Nat) : Nat × (Nat → Int32) := match j with
  | 0 => G.2.2.1 0
  | 1 => (6, fun i => Int32.ofInt (letZ i))
  | _ => (6, fun i => Int32.ofInt (abvZ i))
/-! ===== what a state must have, what a heap must hold ===== -/
def qty (G : qG) : List (ClassId × FieldType) := [(G.2.2.2.2 0, .int), (G.2.2.2.2 1, .byte), (G.2.2.2.2 2, .object RX5), (G.2.2.2.2 3, .object RX7), (G.2.2.2.2 4, .object RX2), (G.2.2.2.2 5, .object RX1)]
def SR (G : qG) (s : State) : Prop :=
  va_K G.2.2.2.1 qcl (qty G) s ∧ (∀ j, j < 3 → va_T .int (G.2.1 j) (roC G j).1 (fun i => .int ((roC G j).2 i)) (fun q => G.1 ≤ q) s s.heap) ∧ va_Z "SunRopes" "LETTERS" "[I" (.ref (G.2.1 1)) (fun q => G.1 ≤ q) s s.heap ∧ va_Z "SunRopes" "KIND_ABOVE" "[I" (.ref (G.2.1 2)) (fun q => G.1 ≤ q) s s.heap ∧ (∀ w ∈ qnw, va_Nw w s) ∧ G.1 ≤ s.heap.size
theorem SR.move {G : qG} {s U : State} (h : SR G s) (hW : s.WarmedH U.vm) (hz : s.heap.size ≤ U.heap.size) (hk : ∀ q, q < s.heap.size → ¬ G.1 ≤ q → U.heap[q]? = s.heap[q]?) : SR G U := by
  obtain ⟨h1, h2, h3, h4, h5, h6⟩ := h
  exact ⟨va_K.moved hW.alike h1, fun j hj => ((h2 j hj).moved hW.alike).kept hk, (h3.moved hW.alike).kept hk, (h4.moved hW.alike).kept hk, qnw_move hW h5, Nat.le_trans h6 hz⟩
/-- the cells of both objects, when they are made -/
def qN : Nat := 94
def HR (G : qG) (A : qH) (H : Heap) : Prop := va_P G.2.2.2.1 qcl (wo G A) H ∧ (H.size = G.1 + A.length ∨ qN ≤ A.length)
def qL (G : qG) (ls : Array Slot) (nL : Nat) (L : List (Option Value)) : Prop := ls.size = nL ∧ lv_wf ls ∧ ∀ (i : Nat) (v : Value), L[i]? = some (some v) → ls[i]? = some (.val (cv G v))
def prs (G : qG) (L : List (Option Value)) : List (Nat × Value) := (List.range L.length).filterMap (fun i => (L[i]?).bind (fun o => o.map (fun v => (i, cv G v))))
theorem prs_in {G : qG} {L : List (Option Value)} {i : Nat} {v : Value} (h : L[i]? = some (some v)) : (i, cv G v) ∈ prs G L :=
  List.mem_filterMap.mpr ⟨i, List.mem_range.mpr (List.getElem?_eq_some_iff.mp h).1, by simp [h]⟩
theorem qL.has {G : qG} {ls : Array Slot} {nL : Nat} {L : List (Option Value)} (h : qL G ls nL L) : lv_has ls nL (prs G L) := by
  refine ⟨h.1, h.2.1, fun q hq => ?_⟩
  obtain ⟨i, -, hi⟩ := List.mem_filterMap.mp hq
  cases hL : L[i]? with
  | none => rw [hL] at hi; cases hi
  | some o =>
    rw [hL] at hi
    cases o with
    | none => cases hi
    | some v => cases hi; exact h.2.2 i v hL
def okS (L : List (Option Value)) (i : Nat) : Bool := match i with
  | 0 => true
  | j + 1 => match L[j]? with
    | some (some v) => v.category == 1
    | _ => true
theorem okS_spec {L : List (Option Value)} {i j : Nat} {v : Value} (h : okS L i = true) (hj : L[j]? = some (some v)) (e : j + 1 = i) : v.category = 1 := by
  subst e
  simp only [okS, hj] at h
  simpa using h
theorem qL.st1 {G : qG} {ls' : Array Slot} {nL i : Nat} {L : List (Option Value)} {a : Value} (ok : okS L i = true) (h : lv_has ls' nL ((i, cv G a) :: (prs G L).filter (fun q => !(q.1 == i) && !(q.1 + 1 == i && q.2.category == 2)))) : qL G ls' nL (L.set i (some a)) := by
  refine ⟨h.1, h.2.1, fun j w hj => ?_⟩
  rw [List.getElem?_set] at hj
  by_cases e : i = j
  · subst e
    rw [if_pos rfl] at hj
    split at hj
    · cases hj
      exact h.2.2 _ List.mem_cons_self
    · cases hj
  · rw [if_neg e] at hj
    refine h.2.2 (j, cv G w) (List.mem_cons_of_mem _ (List.mem_filter.mpr ⟨prs_in hj, ?_⟩))
    have e1 : (j == i) = false := by simp; exact fun q => e q.symm
    simp only [e1, Bool.not_false, Bool.true_and, Bool.not_eq_true', Bool.and_eq_false_iff]
    by_cases e2 : j + 1 = i
    · right
      have h2 := okS_spec ok hj e2
      rw [cv_cat, h2]; rfl
    · left
      simpa using e2
theorem qL.st2 {G : qG} {ls' : Array Slot} {nL i : Nat} {L : List (Option Value)} {a : Value} (ok : okS L i = true) (h : lv_has ls' nL ((i, cv G a) :: (prs G L).filter (fun q => !(q.1 == i) && (!(q.1 == i + 1) && !(q.1 + 1 == i && q.2.category == 2))))) : qL G ls' nL ((L.set i (some a)).set (i + 1) none) := by
  refine ⟨h.1, h.2.1, fun j w hj => ?_⟩
  rw [List.getElem?_set] at hj
  by_cases e0 : i + 1 = j
  · rw [if_pos e0] at hj
    split at hj
    · cases hj
    · cases hj
  rw [if_neg e0, List.getElem?_set] at hj
  by_cases e : i = j
  · subst e
    rw [if_pos rfl] at hj
    split at hj
    · cases hj
      exact h.2.2 _ List.mem_cons_self
    · cases hj
  · rw [if_neg e] at hj
    refine h.2.2 (j, cv G w) (List.mem_cons_of_mem _ (List.mem_filter.mpr ⟨prs_in hj, ?_⟩))
    have e1 : (j == i) = false := by simp; exact fun q => e q.symm
    have e3 : (j == i + 1) = false := by simp; exact fun q => e0 q.symm
    simp only [e1, e3, Bool.not_false, Bool.true_and, Bool.not_eq_true', Bool.and_eq_false_iff]
    by_cases e2 : j + 1 = i
    · right
      have h2 := okS_spec ok hj e2
      rw [cv_cat, h2]; rfl
    · left
      simpa using e2
/-! ===== the judgement ===== -/
def qF (G : qG) (y : MethodName) (cc : ByteArray) (mL d : Nat) (B : qH) (p : Program) (R : Room) (s : State) (m : MethodId) (args : Array Value) (meth : Method) (c : Code) (n0 s0 : Nat) : Prop :=
  p.tables.exec = Jvm.exec ∧ c.code = cc ∧ c.maxLocals = mL ∧ s.vm.findClass y.cls = some m.cls ∧ (∀ w ∈ qws, w.before args s = true) ∧ (y.name = "<init>" → meth.name = "<init>") ∧ SR G s ∧ d ≤ R.frames ∧ 64 * d ≤ R.locals ∧ B.length ≤ n0 + R.cells ∧ sl B ≤ s0 + R.slots
def qRet (rt : Option FieldType) (i : Instr) (r : Option Value) : Prop :=
  (i = .ireturn ∧ ∃ (x : Int32) (ty : FieldType), r = some (.int x) ∧ rt = some ty ∧ narrow ty (.int x) = .int x) ∨ (i = .lreturn ∧ rt = some .long ∧ ∃ x, r = some (.long x)) ∨ (i = .return_ ∧ rt = none ∧ r = none)
def qK (l : Launch) (G : qG) (cc : ByteArray) (rt : Option FieldType) (r : Option Value) (B : qH) (p : Program) (e : Env) (R : Room) (s : State) (m : MethodId) (args : Array Value) (below : List Frame) (meth : Method) (c : Code) (Q : State → Prop) (n0 s0 : Nat) : Prop :=
  ∀ (H : Heap) (locs : List Loc) (cells slots pc : Nat) (ls : Array Slot) (i : Instr), decode cc pc = .ok (i, 1) → qRet rt i r → HR G B H → va_S (fun q => G.1 ≤ q) s.heap H locs → cells + n0 = B.length → slots + s0 = sl B → W p l e R s m args below meth c H locs cells slots Q (F0 m pc ls (r.toList.map (cv G)))
def qW (l : Launch) (G : qG) (y : MethodName) (cc : ByteArray) (mL : Nat) (rt : Option FieldType) (d : Nat) (r : Option Value) (B : qH) (pc : Nat) (L : List (Option Value)) (st : List Value) (A : qH) : Prop :=
  ∀ (p : Program) (e : Env) (R : Room) (s : State) (m : MethodId) (args : Array Value) (below : List Frame) (meth : Method) (c : Code) (Q : State → Prop) (n0 s0 : Nat) (H : Heap) (locs : List Loc) (cells slots : Nat) (ls : Array Slot),
    qF G y cc mL d B p R s m args meth c n0 s0 → HR G A H → va_S (fun q => G.1 ≤ q) s.heap H locs → qL G ls mL L → cells + n0 = A.length → slots + s0 = sl A → qK l G cc rt r B p e R s m args below meth c Q n0 s0 →
    W p l e R s m args below meth c H locs cells slots Q (F0 m pc ls (st.map (cv G)))
def qJ (l : Launch) (G : qG) (y : MethodName) (cc : ByteArray) (mL : Nat) (rt : Option FieldType) (d : Nat) (pc : Nat) (L : List (Option Value)) (st : List Value) (A : qH) (F : Option (Option Value × qH)) : Prop :=
  ∀ (r : Option Value) (B : qH), F = some (r, B) → A.length ≤ B.length ∧ sl A ≤ sl B ∧ qW l G y cc mL rt d r B pc L st A
section QJ
variable {l : Launch} {G : qG} {y : MethodName} {cc : ByteArray} {mL d : Nat} {rt : Option FieldType} {pc pc' : Nat} {L L' : List (Option Value)} {st st' : List Value} {A A' : qH} {F : Option (Option Value × qH)}
theorem qJ_none : qJ l G y cc mL rt d pc L st A none := fun _ _ h => by cases h
/-- the heap and the locals stay -/
theorem qJ_st (k : qJ l G y cc mL rt d pc' L st' A F) (h : ∀ (p : Program) (e : Env) (R : Room) (s : State) (m : MethodId) (args : Array Value) (below : List Frame) (meth : Method) (c : Code) (Q : State → Prop) (n0 s0 : Nat) (H : Heap) (locs : List Loc) (cells slots : Nat) (ls : Array Slot) (B : qH),
      qF G y cc mL d B p R s m args meth c n0 s0 → HR G A H → va_S (fun q => G.1 ≤ q) s.heap H locs → qL G ls mL L → cells ≤ R.cells → slots ≤ R.slots → W p l e R s m args below meth c H locs cells slots Q (F0 m pc' ls (st'.map (cv G))) → W p l e R s m args below meth c H locs cells slots Q (F0 m pc ls (st.map (cv G)))) : qJ l G y cc mL rt d pc L st A F := by
  intro r B hF
  obtain ⟨h1, h2, k⟩ := k r B hF
  refine ⟨h1, h2, fun p e R s m args below meth c Q n0 s0 H locs cells slots ls hFr hH hS hl hc hs hK => ?_⟩
  have a1 := hFr.2.2.2.2.2.2.2.2.2.1
  have a2 := hFr.2.2.2.2.2.2.2.2.2.2
  exact h p e R s m args below meth c Q n0 s0 H locs cells slots ls B hFr hH hS hl (by omega) (by omega) (k p e R s m args below meth c Q n0 s0 H locs cells slots ls hFr hH hS hl hc hs hK)
/-- the heap stays, the locals change -/
theorem qJ_sl (k : qJ l G y cc mL rt d pc' L' st' A F) (h : ∀ (p : Program) (e : Env) (R : Room) (s : State) (m : MethodId) (args : Array Value) (below : List Frame) (meth : Method) (c : Code) (Q : State → Prop) (H : Heap) (locs : List Loc) (cells slots : Nat) (ls : Array Slot),
      p.tables.exec = Jvm.exec → c.code = cc → qL G ls mL L → (∀ ls' : Array Slot, qL G ls' mL L' → W p l e R s m args below meth c H locs cells slots Q (F0 m pc' ls' (st'.map (cv G)))) → W p l e R s m args below meth c H locs cells slots Q (F0 m pc ls (st.map (cv G)))) : qJ l G y cc mL rt d pc L st A F := by
  intro r B hF
  obtain ⟨h1, h2, k⟩ := k r B hF
  refine ⟨h1, h2, fun p e R s m args below meth c Q n0 s0 H locs cells slots ls hFr hH hS hl hc hs hK => ?_⟩
  exact h p e R s m args below meth c Q H locs cells slots ls hFr.1 hFr.2.1 hl (fun ls' hl' => k p e R s m args below meth c Q n0 s0 H locs cells slots ls' hFr hH hS hl' hc hs hK)
/-- the locals stay, a cell changes -/
theorem qJ_sh (hn : A'.length = A.length) (hz : sl A' = sl A) (k : qJ l G y cc mL rt d pc' L st' A' F) (h : ∀ (p : Program) (e : Env) (R : Room) (s : State) (m : MethodId) (args : Array Value) (below : List Frame) (meth : Method) (c : Code) (Q : State → Prop) (n0 s0 : Nat) (H : Heap) (locs : List Loc) (cells slots : Nat) (ls : Array Slot) (B : qH),
      qF G y cc mL d B p R s m args meth c n0 s0 → HR G A H → va_S (fun q => G.1 ≤ q) s.heap H locs → qL G ls mL L → (∀ (H1 : Heap) (locs1 : List Loc), va_P G.2.2.2.1 qcl (wo G A') H1 → (H1.size = H.size ∨ qN ≤ A.length) → va_S (fun q => G.1 ≤ q) s.heap H1 locs1 → W p l e R s m args below meth c H1 locs1 cells slots Q (F0 m pc' ls (st'.map (cv G)))) → W p l e R s m args below meth c H locs cells slots Q (F0 m pc ls (st.map (cv G)))) : qJ l G y cc mL rt d pc L st A F := by
  intro r B hF
  obtain ⟨h1, h2, k⟩ := k r B hF
  refine ⟨by rw [← hn]; exact h1, by rw [← hz]; exact h2, fun p e R s m args below meth c Q n0 s0 H locs cells slots ls hFr hH hS hl hc hs hK => ?_⟩
  exact h p e R s m args below meth c Q n0 s0 H locs cells slots ls B hFr hH hS hl (fun H1 locs1 hP hsz hS1 => k p e R s m args below meth c Q n0 s0 H1 locs1 cells slots ls hFr ⟨hP, by rw [hn]; exact hsz.elim (fun z => by rw [z]; exact hH.2) Or.inr⟩ hS1 hl (by rw [hn]; exact hc) (by rw [hz]; exact hs) hK)
/-- a cell comes -/
theorem qJ_sn {x : qE} (hq : A.length < qN) (k : qJ l G y cc mL rt d pc' L st' (A ++ [x]) F) (h : ∀ (p : Program) (e : Env) (R : Room) (s : State) (m : MethodId) (args : Array Value) (below : List Frame) (meth : Method) (c : Code) (Q : State → Prop) (n0 s0 : Nat) (H : Heap) (locs : List Loc) (cells slots : Nat) (ls : Array Slot) (B : qH),
      qF G y cc mL d B p R s m args meth c n0 s0 → HR G A H → va_S (fun q => G.1 ≤ q) s.heap H locs → qL G ls mL L → H.size = G.1 + A.length → cells + 1 ≤ R.cells → slots + cs x ≤ R.slots → (∀ (H1 : Heap), va_at G.2.2.2.1 qcl (G.1 + A.length, cE G x) H1 → H1.size = H.size + 1 → (∀ q, q < H.size → H1[q]? = H[q]?) → W p l e R s m args below meth c H1 locs (cells + 1) (slots + cs x) Q (F0 m pc' ls (st'.map (cv G)))) → W p l e R s m args below meth c H locs cells slots Q (F0 m pc ls (st.map (cv G)))) : qJ l G y cc mL rt d pc L st A F := by
  intro r B hF
  obtain ⟨h1, h2, k⟩ := k r B hF
  rw [List.length_append, List.length_singleton] at h1
  rw [sl_app] at h2
  refine ⟨by omega, by omega, fun p e R s m args below meth c Q n0 s0 H locs cells slots ls hFr hH hS hl hc hs hK => ?_⟩
  have a1 := hFr.2.2.2.2.2.2.2.2.2.1
  have a2 := hFr.2.2.2.2.2.2.2.2.2.2
  have hsz : H.size = G.1 + A.length := by
    rcases hH.2 with g | g
    · exact g
    · exact absurd g (Nat.not_le.mpr hq)
  refine h p e R s m args below meth c Q n0 s0 H locs cells slots ls B hFr hH hS hl hsz (by omega) (by omega) (fun H1 hx hz hk => ?_)
  refine k p e R s m args below meth c Q n0 s0 H1 locs (cells + 1) (slots + cs x) ls hFr ⟨?_, Or.inl (by rw [hz, hsz, List.length_append, List.length_singleton, Nat.add_assoc])⟩ ⟨Nat.le_trans hS.1 (by omega), fun q g1 g2 => (hk q (Nat.lt_of_lt_of_le g1 hS.1)).trans (hS.2.1 q g1 g2), hS.2.2⟩ hl (by rw [List.length_append, List.length_singleton]; omega) (by rw [sl_app]; omega) hK
  rw [wo_app]
  refine (hH.1.kept (fun k q hq => hk q.1 ((hH.1 k q hq).lt))).app (fun k q hq => ?_)
  have hz : k < 1 := (List.getElem?_eq_some_iff.mp hq).1
  rw [show k = 0 by omega] at hq
  cases hq
  exact hx
end QJ
