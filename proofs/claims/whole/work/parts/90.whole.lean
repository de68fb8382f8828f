/-! THE CLAIM OUT OF ONE WALK OF THE LAW'S BODY. Your part is whole_start (and what it stands on); all else here is the same for every law, but numbers. -/
def R_law : String := "SunRopesLaw"
def lw_P (b : Addr) (xs : List Int32) (args : Array Value) (s : State) : Prop := args = #[.ref b] ∧ s.IntsAt b xs ∧ xs.length ≤ 384 ∧ (Jvm.Cond.and given_1 narrow_1).before args s = true
def lw_Q (_ : Array Value) (s : State) (o : Outcome) (t : State) : Prop := o = .returned (some (.int 1)) ∧ Framed s o t [] 600000 7302250
def lw_Z (below : List Frame) (a : Array Value) (s : State) : State → Prop := fun t => ∃ o, t.status = .running ∧ Ended t below o ∧ lw_Q a s o t
/-- the law's own end, with 1 on the stack, nothing written that was there before, its room as the claim has it -/
theorem lw_ret {p : Program} {l : Launch} {e : Env} {s : State} {m : MethodId} {below : List Frame} {meth : Method} {c : Code} {b : Nat} (hx : p.tables.exec = Jvm.exec) (hb : c.code = code) (hr : meth.sig.returnType = ret) (hlocks : meth.locks = false) {pc : Nat} {H : Heap} {ls : Array Slot} (hdg : decode code pc = .ok (.ireturn, 1)) : W p l e room_1 s m #[Value.ref b] below meth c H [] 600000 7302250 (lw_Z below #[Value.ref b] s) (F0 m pc ls [.int 1]) := by
  intro T hT X
  obtain ⟨fs, hret, hrun, hended, hW, hframe⟩ := X.leave (v := some (.int 1)) (hlocks := hlocks) (fun h => by rw [hr] at h; cases h)
  have hmeth' : T.vm.method? m = some meth := X.method'
  refine ⟨T.setFrames fs, ?_, .returned (some (.int 1)), hrun, hended, rfl, ⟨_, rfl⟩, hW, hframe⟩
  jvm_step X.here [X.here.top, hx, hb, hdg, hmeth', hr, ret, narrow_b1]
  (try refine ⟨rfl, ?_⟩); (try refine ⟨rfl, ?_⟩)
  first | (intro acts; rw [hret _ acts rfl rfl rfl]) | rw [hret _ _ rfl rfl rfl]
  exact Steps.refl _
/-- what holds at the law's entry: the machine, the code, the tables' words (any of lw_tbl by 'hts w (by decide +kernel)'), the script of L ints xs at the cell b, what the Statement gives of the start (any of its parts by flat_of_before) -/
def lw_At (p : Program) (s : State) (m : MethodId) (meth : Method) (c : Code) (b L : Nat) (xs : Nat → Int32) : Prop :=
  p.tables.exec = Jvm.exec ∧ c.code = code ∧ meth.sig.returnType = ret ∧ c.maxLocals = 4 ∧ s.vm.findClass R_law = some m.cls ∧ (∀ w ∈ lw_tbl, w.before #[Value.ref b] s = true) ∧ va_X b L xs s s.heap ∧ b < s.heap.size ∧ meth.locks = false ∧ (Jvm.Cond.and given_1 narrow_1).before #[Value.ref b] s = true

theorem sl_lay (μ : Mem) : sl (lay μ) = 9507 := by
  have h : (lay μ).map cs = (List.range qN).map (fun k => match shp k with | .inl (_, ks) => ks.length | .inr (.inl (_, n)) => n | .inr (.inr (_, n, _, _)) => n) := by
    unfold lay
    rw [List.map_map]
    apply List.map_congr_left
    intro k _
    show cs (mkc (shp k) (μ k)) = _
    cases shp k with
    | inl q => obtain ⟨c, ks⟩ := q; simp [mkc, cs]
    | inr q =>
      cases q with
      | inl q => rfl
      | inr q => rfl
  unfold sl
  rw [h]
  decide +kernel
theorem qcl_known {s : State} {args : Array Value} (hq : ∀ w ∈ qws, w.before args s = true) : ∃ (dC : Nat → ClassId) (dI : Nat → Nat → Nat), ∀ (k : Nat) (q : vw_C), qcl[k]? = some q → u_Kn s q.1 q.2.1 q.2.2 (dC k) (dI k) := by
  have h : ∀ k : Nat, ∃ (c : ClassId) (i : Nat → Nat), ∀ q : vw_C, qcl[k]? = some q → u_Kn s q.1 q.2.1 q.2.2 c i := by
    intro k
    match k with
    | 0 => obtain ⟨c, i, h⟩ := u_known (C := RX0) (T := TX0) (N := 2) (n := 2) hq inX0 (hq _ ik_X0); exact ⟨c, i, fun q e => by cases e; exact h⟩
    | 1 => obtain ⟨c, i, h⟩ := u_known (C := RX1) (T := TX1) (N := 5) (n := 5) hq inX1 (hq _ ik_X1); exact ⟨c, i, fun q e => by cases e; exact h⟩
    | 2 => obtain ⟨c, i, h⟩ := u_known (C := RX2) (T := TX2) (N := 3) (n := 3) hq inX2 (hq _ ik_X2); exact ⟨c, i, fun q e => by cases e; exact h⟩
    | 3 => obtain ⟨c, i, h⟩ := u_known (C := RX3) (T := TX3) (N := 2) (n := 2) hq inX3 (hq _ ik_X3); exact ⟨c, i, fun q e => by cases e; exact h⟩
    | 4 => obtain ⟨c, i, h⟩ := u_known (C := RX4) (T := TX4) (N := 4) (n := 4) hq inX4 (hq _ ik_X4); exact ⟨c, i, fun q e => by cases e; exact h⟩
    | 5 => obtain ⟨c, i, h⟩ := u_known (C := RX5) (T := TX5) (N := 2) (n := 2) hq inX5 (hq _ ik_X5); exact ⟨c, i, fun q e => by cases e; exact h⟩
    | 6 => obtain ⟨c, i, h⟩ := u_known (C := RX6) (T := TX6) (N := 8) (n := 8) hq inX6 (hq _ ik_X6); exact ⟨c, i, fun q e => by cases e; exact h⟩
    | 7 => obtain ⟨c, i, h⟩ := u_known (C := RX7) (T := TX7) (N := 2) (n := 2) hq inX7 (hq _ ik_X7); exact ⟨c, i, fun q e => by cases e; exact h⟩
    | 8 => obtain ⟨c, i, h⟩ := u_known (C := RX8) (T := TX8) (N := 8) (n := 8) hq inX8 (hq _ ik_X8); exact ⟨c, i, fun q e => by cases e; exact h⟩
    | 9 => obtain ⟨c, i, h⟩ := u_known (C := RX9) (T := TX9) (N := 16) (n := 16) hq inX9 (hq _ ik_X9); exact ⟨c, i, fun q e => by cases e; exact h⟩
    | 10 => obtain ⟨c, i, h⟩ := u_known (C := RX10) (T := TX10) (N := 39) (n := 39) hq inX10 (hq _ ik_X10); exact ⟨c, i, fun q e => by cases e; exact h⟩
    | k + 11 => exact ⟨0, fun _ => 0, fun q e => by simp [qcl] at e⟩
  exact ⟨fun k => (h k).choose, fun k => (h k).choose_spec.choose, fun k q e => (h k).choose_spec.choose_spec q e⟩
theorem arr_prim {s : State} {args : Array Value} {ty : FieldType} (h : (Cond.arrayClass ty).before args s = true) : ∃ (cA comp : ClassId) (k : Class), s.vm.findClass ("[" ++ ty.toString) = some cA ∧ s.vm.classes[cA]? = some k ∧ k.kind = .array comp ty := by
  obtain ⟨c, k, comp, h1, h2, h3⟩ := Cond.arrayClass_spec h
  exact ⟨c, comp, k, h1, h2, h3⟩
theorem qty_known {s : State} {args : Array Value} (hq : ∀ w ∈ qws, w.before args s = true) (hn : ∀ w ∈ qnw, va_Nw w s) : ∃ tc : Nat → ClassId, ∀ G : qG, G.2.2.2.2 = tc → ∀ (k : Nat) (q : ClassId × FieldType), (qty G)[k]? = some q → ArrOfT s q.1 q.2 ∧ va_RA s q.1 q.2 := by
  have hp : ∀ ty : FieldType, (Cond.arrayClass ty).before args s = true → (∀ c, s.vm.findClass ("[" ++ ty.toString) = some c → va_RA s c ty) → ∃ c, ArrOfT s c ty ∧ va_RA s c ty := by
    intro ty h hr
    obtain ⟨cA, comp, k, h1, h2, h3⟩ := arr_prim h
    exact ⟨cA, fun n z => ⟨(fun _ e => by cases e), k, h2, comp, h3⟩, hr cA h1⟩
  have ho : ∀ C : String, va_AO C s → ∃ c, ArrOfT s c (.object C) ∧ va_RA s c (.object C) := by
    intro C h
    obtain ⟨comp, c, k, h1, h2, h3, h4, h5⟩ := Cond.arrayOver_spec h
    exact ⟨c, fun n z => ⟨(fun _ e => by cases e), k, h3, comp, h4⟩, k, comp, h3, h4, h1, h5⟩
  obtain ⟨c0, g0⟩ := hp .int (hq _ ac_int) (fun _ h => h)
  obtain ⟨c1, g1⟩ := hp .byte (hq _ ac_byte) (fun _ h => h)
  obtain ⟨c2, g2⟩ := ho RX5 (hn _ (by simp [qnw, RX5]))
  obtain ⟨c3, g3⟩ := ho RX7 (hn _ (by simp [qnw, RX7]))
  obtain ⟨c4, g4⟩ := ho RX2 (hn _ (by simp [qnw, RX2]))
  obtain ⟨c5, g5⟩ := ho RX1 (hn _ (by simp [qnw, RX1]))
  refine ⟨fun t => match t with | 0 => c0 | 1 => c1 | 2 => c2 | 3 => c3 | 4 => c4 | _ => c5, fun G hG k q e => ?_⟩
  unfold qty at e
  rw [hG] at e
  match k, e with
  | 0, e => cases e; exact g0
  | 1, e => cases e; exact g1
  | 2, e => cases e; exact g2
  | 3, e => cases e; exact g3
  | 4, e => cases e; exact g4
  | 5, e => cases e; exact g5
  | k + 6, e => simp at e
theorem six {P : Nat → Prop} (h0 : P 0) (h1 : P 1) (h2 : P 2) (h3 : P 3) (h4 : P 4) (h5 : P 5) : ∀ j, j < 6 → P j := by
  intro j hj
  match j, hj with
  | 0, _ => exact h0
  | 1, _ => exact h1
  | 2, _ => exact h2
  | 3, _ => exact h3
  | 4, _ => exact h4
  | 5, _ => exact h5
  | j + 6, h => exact absurd h (by omega)
/-- the law's body over the abstract heap, from its entry -/
theorem law_body {l : Launch} {G : qG} {sl : Nat} {sc : Nat → Int} {μ : Mem} (hG : G.2.2.1 0 = (sl, fun i => iI (sc i))) (hF : f_L_law_L18 sl sc 100000 0 mu0 = some (1, μ)) : qJ l G yL_law cL_law 4 (some .boolean) 20 0 [some (.retAddr 0), none, none, none] [] [] (some (some (.int (iI 1)), lay μ)) := by
  have hlast : qJ l G yL_law cL_law 4 (some .boolean) 20 18 [some (.retAddr 0), some (.ref 0), some (.ref 67), some (.int (iI 0))] [] (lay mu0) (lf eI (f_L_law_L18 sl sc 100000 0 mu0)) := j_L_law_L18 hG 100000 0 mu0
  rw [hF] at hlast
  refine J_new (pc := 0) (ci := 9) (fs := [.null, .null, .null, .null, .null, .null, .null, .null, .null, .null, .null, .null, .int (iI 0), .int (iI 0), .long (iL 0), .long (iL 0)]) rfl inX9 tyX9 tyX9_ok ik_X9 ini_X9 (by decide +kernel) rfl (fun _ => rfl) (by decide) lc_L_7 dL_law_0 ?_
  show qJ _ _ _ _ _ _ _ _ _ _ qh1 _
  refine J_dup (pc := 3) dL_law_3 rfl ?_
  refine J_callI (pc := 4) (d' := 3) (st := [.ref 0]) im_yX9_init ini_X9 cd_yX9_init (by decide) rfl (by decide +kernel) (Or.inl lm_L_9) dL_law_4 (by decide) (Nat.le_of_ble_eq_true rfl) ct_X9_init_0 (fun h => by cases h) (fun r A1 h => ?_)
  cases h
  show qJ _ _ _ _ _ _ _ _ _ [.ref 0] _ _
  refine J_astore_n (pc := 7) (L' := [some (.retAddr 0), some (.ref 0), none, none]) dL_law_7 rfl (by decide) rfl rfl ?_
  refine J_new (pc := 8) (ci := 10) (fs := [.int (iI 0), .int (iI 0), .null, .null, .null, .null, .null, .null, .int (iI 0), .null, .int (iI 0), .long (iL 0), .long (iL 0), .int (iI 0), .null, .null, .null, .null, .null, .null, .null, .null, .null, .null, .int (iI 0), .int (iI 0), .int (iI 0), .int (iI 0), .null, .null, .null, .null, .null, .null, .null, .int (iI 0), .int (iI 0), .null, .null]) rfl inX10 tyX10 tyX10_ok ik_X10 ini_X10 (by decide +kernel) rfl (fun _ => rfl) (by decide) lc_L_10 dL_law_8 ?_
  show qJ _ _ _ _ _ _ _ _ _ _ qh148 _
  refine J_dup (pc := 11) dL_law_11 rfl ?_
  refine J_callI (pc := 12) (d' := 1) (st := [.ref 67]) im_yX10_init ini_X10 cd_yX10_init (by decide) rfl (by decide +kernel) (Or.inl lm_L_12) dL_law_12 (by decide) (Nat.le_of_ble_eq_true rfl) ct_X10_init_67 (fun h => by cases h) (fun r A1 h => ?_)
  cases h
  show qJ _ _ _ _ _ _ _ _ _ [.ref 67] _ _
  refine J_astore_n (pc := 15) (L' := [some (.retAddr 0), some (.ref 0), some (.ref 67), none]) dL_law_15 rfl (by decide) rfl rfl ?_
  refine J_iconst (pc := 16) dL_law_16 ?_
  refine J_istore_n (pc := 17) (L' := [some (.retAddr 0), some (.ref 0), some (.ref 67), some (.int (iI 0))]) dL_law_17 rfl (by decide) rfl rfl ?_
  rw [last_heap]
  exact hlast
theorem whole_start {p : Program} {e : Env} {s : State} {m : MethodId} {below : List Frame} {meth : Method} {c : Code} (l : Launch) (hflags : l.flags = flags0) {b L : Nat} {xs : Nat → Int32} (hL : L ≤ 384) (C0 : lw_At p s m meth c b L xs) : W p l e room_1 s m #[Value.ref b] below meth c s.heap [] 0 0 (lw_Z below #[Value.ref b] s) (entryFrame m ([Value.ref b] : List Value).toArray 4) := by
  obtain ⟨hx, hb, hr, hml, hown, hts, hX, hbl, hlocks, hgv⟩ := C0
  have hq : ∀ w ∈ qws, w.before #[Value.ref b] s = true := fun w h => hts w (List.mem_filter.mp h).1
  have hn : ∀ w ∈ qnw, va_Nw w s := by
    have hm : ∀ w ∈ qnw, w ∈ lw_tbl := by
      have e : qnw = [99, 125, 169, 201, 220, 225, 242, 272, 277, 286, 305, 460, 486, 94, 96, 217, 241].filterMap (fun i => lw_tbl[i]?) := by decide +kernel
      intro w hw
      rw [e] at hw
      obtain ⟨i, -, hi⟩ := List.mem_filterMap.mp hw
      exact List.mem_of_getElem? hi
    have hw := fun w h => hts w (hm w h)
    simp only [qnw, List.forall_mem_cons] at hw ⊢
    obtain ⟨h1, h2, h3, h4, h5, h6, h7, h8, h9, h10, h11, h12, h13, h14, h15, h16, h17, -⟩ := hw
    exact ⟨va_Nw.of rfl h1, va_Nw.of rfl h2, va_Nw.of rfl h3, va_Nw.of rfl h4, va_Nw.of rfl h5, va_Nw.of rfl h6, va_Nw.of rfl h7, va_Nw.of rfl h8, va_Nw.of rfl h9, va_Nw.of rfl h10, va_Nw.of rfl h11, va_Nw.of rfl h12, va_Nw.of rfl h13, h14, h15, h16, h17, fun _ h => absurd h List.not_mem_nil⟩
  obtain ⟨dC, dI, hKc⟩ := qcl_known hq
  obtain ⟨tc, hty⟩ := qty_known hq hn
  have hs := flat_of_before _ hgv
  have hA : ∀ a : Nat, a < s.heap.size → ¬ (fun q => s.heap.size ≤ q) a := fun a h => Nat.not_le.mpr h
  obtain ⟨aL, eL1, hTL⟩ := va_Tof (tm := .static "SunRopes" "LETTERS" "[I") (ty := .int) (N := 6) (f := fun j => .int (Int32.ofInt (letZ j))) (A := fun q => s.heap.size ≤ q) (by decide) (hs _ (by decide +kernel)) (va_eqt (hs _ (by decide +kernel))) (six (va_eqt (hs _ (by decide +kernel))) (va_eqt (hs _ (by decide +kernel))) (va_eqt (hs _ (by decide +kernel))) (va_eqt (hs _ (by decide +kernel))) (va_eqt (hs _ (by decide +kernel))) (va_eqt (hs _ (by decide +kernel)))) hA
  obtain ⟨aK, eK1, hTK⟩ := va_Tof (tm := .static "SunRopes" "KIND_ABOVE" "[I") (ty := .int) (N := 6) (f := fun j => .int (Int32.ofInt (abvZ j))) (A := fun q => s.heap.size ≤ q) (by decide) (hs _ (by decide +kernel)) (va_eqt (hs _ (by decide +kernel))) (six (va_eqt (hs _ (by decide +kernel))) (va_eqt (hs _ (by decide +kernel))) (va_eqt (hs _ (by decide +kernel))) (va_eqt (hs _ (by decide +kernel))) (va_eqt (hs _ (by decide +kernel))) (va_eqt (hs _ (by decide +kernel)))) hA
  have hls : ∀ n : String, Cond.laysStatic "SunRopes" n "[I" ∈ lw_tbl → ∀ t : Nat, (Term.static "SunRopes" n "[I").eval #[Value.ref b] s none [] s = some (.ref t) → va_Z "SunRopes" n "[I" (.ref t) (fun q => s.heap.size ≤ q) s s.heap := fun n h t ht => va_Zof (hts _ h) (hq _ ini_X9) ht hA
  let sc : Nat → Int := fun i => (xs i).toInt
  let G : qG := (s.heap.size, fun j => match j with | 0 => b | 1 => aL | _ => aK, fun _ => (L, fun i => iI (sc i)), (dC, dI), tc)
  have hxs : (fun i => iI (sc i)) = xs := funext fun i => iI_w (xs i)
  have hTS : va_T .int b L (fun i => .int (iI (sc i))) (fun q => s.heap.size ≤ q) s s.heap := by
    obtain ⟨scr, g1, g2, g3, g4, g5⟩ := hX
    refine ⟨scr, g1, g2, g3, by omega, by rw [g4] <;> rfl, fun j hj => ?_, hA b hbl⟩
    rw [g5 j hj]
    show some (Value.int (xs j)) = some (Value.int (iI (xs j).toInt))
    rw [iI_w]
  have hSR : SR G s := by
    refine ⟨⟨hKc, hty G rfl⟩, fun j hj => ?_, hls "LETTERS" (List.mem_of_getElem? (i := 461) (by decide +kernel)) aL eL1, hls "KIND_ABOVE" (List.mem_of_getElem? (i := 487) (by decide +kernel)) aK eK1, hn, Nat.le_refl _⟩
    match j, hj with
    | 0, _ => exact hTS
    | 1, _ => exact hTL
    | 2, _ => exact hTK
    | j + 3, h => exact absurd h (by omega)
  obtain ⟨μ, hF⟩ := law_true L sc hL (fun i => ⟨Int32.le_toInt _, Int32.toInt_lt _⟩)
  obtain ⟨-, -, k⟩ := law_body (l := l) (G := G) rfl hF _ _ rfl
  rw [lg_entry_eq]
  refine k p e room_1 s m #[Value.ref b] below meth c (lw_Z below #[Value.ref b] s) 0 0 s.heap [] 0 0 _ ⟨hx, hb, hml, hown, hq, fun h => absurd h (by decide), hSR, by decide, by decide, ?_, ?_⟩ ⟨fun k q h => by simp [wo] at h, Or.inl rfl⟩ va_S.rf ?_ rfl rfl ?_
  · rw [lay_len]; decide
  · rw [sl_lay]; decide
  · have h := qEnt_L G (vs := [.retAddr 0]) (n := 4) (by rw [lg_len]; decide)
    exact h
  · intro H locs cells slots pc ls i hd hrr hH hS hc hsl
    rw [lay_len] at hc
    rw [sl_lay] at hsl
    refine va_forget (fun q hq => hS.2.2 q hq) ?_
    refine W.widen (k := 600000) (n := 7302250) (by rw [show cells = 94 from hc]; decide) (by rw [show slots = 9507 from hsl]; decide) ?_
    rcases hrr with ⟨rfl, -⟩ | ⟨-, h, -⟩ | ⟨-, h, -⟩
    · exact lw_ret hx hb hr hlocks hd
    · cases h
    · cases h
set_option maxHeartbeats 4000000 in
theorem lw_walk (l : Launch) (hflags : l.flags = flags0) (b : Addr) (xs : List Int32) : MetFree l x (headSpec (Jvm.Cond.code x code maxLocals ret :: tables_1) room_1) (lw_P b xs) (fun _ _ _ _ _ => True) lw_Q := by
  refine MetFree.of_bodyS (code := code) (maxLocals := maxLocals) (ret := ret) (by decide) ?_ ?_
  · intro args s m h hn
    obtain ⟨meth, c, h1, h2, h3, h4, h5, h6, -, -⟩ := Cond.code_spec hn (atoms_spec (ws := Jvm.Cond.code x code maxLocals ret :: tables_1) h _ List.mem_cons_self)
    exact ⟨meth, c, h1, h2, h3, h4, h5, h6⟩
  · intro p e s m args below meth c s₁ B hml0 hP _
    obtain ⟨rfl, hx, hbd, hgv⟩ := hP
    obtain ⟨scr, harrAt, hlist, hof, hsmall⟩ := hx
    obtain ⟨hcb, hkn, -, -⟩ := State.arrayAt?_spec harrAt
    have hown : s.vm.findClass R_law = some m.cls := findClass_of_methodNamed B.named
    have hts0 : ∀ c ∈ (Jvm.Cond.code x code maxLocals ret :: tables_1), c.before #[Value.ref b] s = true := atoms_spec (ws := Jvm.Cond.code x code maxLocals ret :: tables_1) B.pre
    have hts : ∀ w ∈ lw_tbl, w.before #[Value.ref b] s = true := k2_hts_sels lw_privs (fun w hw => hts0 w (List.mem_cons_of_mem _ hw)) lw_privs_ok
    have hml : c.maxLocals = 4 := B.maxLocals_eq (hts0 _ List.mem_cons_self)
    have X₀ : Stand p l e room_1 s m #[Value.ref b] below meth c s₁ [] 0 0 := Stand.of_body B
    have hh0 : s₁.heap = s.heap := by rw [B.state]; rfl
    have hsz : scr.slots.size = xs.length := by rw [← Array.length_toList, hlist, List.length_map]
    have hval : ∀ j : Nat, j < xs.length → scr.slots[j]? = some (.int (xs.getD j 0)) := fun j hj => by
      rw [← Array.getElem?_toList, hlist]
      simp [hj]
    have hbl : b < s.heap.size := (Array.getElem?_eq_some_iff.mp hcb).1
    have hX : va_X b xs.length (fun j => xs.getD j 0) s s.heap := ⟨scr, hcb, hof, hkn, hsz, hval⟩
    have K : W p l e room_1 s m #[Value.ref b] below meth c s₁.heap [] 0 0 (lw_Z below #[Value.ref b] s) (entryFrame m ([Value.ref b] : List Value).toArray 4) := by
      rw [hh0]
      exact whole_start l hflags hbd ⟨B.exec, B.bytes, B.returns, hml, hown, hts, hX, hbl, B.notSynchronized, hgv⟩
    obtain ⟨t, a1, o, b1, b2, b3⟩ := K s₁ rfl X₀
    exact ⟨t, o, a1, b1, b2, b3⟩
theorem lw_pre_spec {args : Array Value} {s : State} (h : (Jvm.Cond.and given_1 narrow_1).before args s = true) (hr : rest_1_c.before args s = true) : ∃ (b : Addr) (xs : List Int32), lw_P b xs args s := by
  have hs := flat_of_before _ h
  have hq := flat_of_before _ hr
  have hc : (Cond.count 1).before args s = true := hs _ (by decide +kernel)
  have harr : (Cond.arrayOf (.arg 0) .int).before args s = true := hs _ (by decide +kernel)
  have hle : (Cond.le (.length (.arg 0)) (.int 384)).before args s = true := hs _ (by decide +kernel)
  have hlen : (Cond.isInt (.length (.arg 0))).before args s = true := hq _ (by decide +kernel)
  have hall : (Cond.all (.arg 0) (.isInt (.elem (.arg 0) (.index 0)))).before args s = true := hq _ (by decide +kernel)
  obtain ⟨b, xs, hb, hx⟩ := State.ints_of_pre rfl harr hlen hall
  have hsm : xs.length < 2 ^ 31 := hx.choose_spec.2.2.2
  have hev : (Term.length (.arg 0)).eval args s none [] s = some (.int xs.length.toInt32) := hx.length_eval hb
  have hv := Cond.le_ints hev (show (Term.int 384).eval args s none [] s = some (.int 384) from rfl)
  have hd : xs.length.toInt32 ≤ 384 := by
    simpa [Cond.before, Cond.holds, hv] using hle
  have hN : xs.length ≤ 384 := (Int32.ofNat_le_ofNat hsm (by decide)).mp (show Int32.ofNat xs.length ≤ Int32.ofNat 384 from hd)
  exact ⟨b, xs, Cond.one_arg hc (show args[0]? = some (.ref b) from hb), hx, hN, h⟩
theorem lw_comes (l : Launch) (hflags : l.flags = flags0) : Comes l x (Jvm.Cond.code x code maxLocals ret :: tables_1) room_1 (fun tb e args s => Calls_1 tb e args s ∧ rest_1 tb e args s ∧ Pre_1 tb e args s)
    (fun _ _ args s o t => lw_Q args s o t) := by
  intro p e ha hc hk s m args below hf hfit hheap happ hpre
  obtain ⟨b, xs, hP⟩ := lw_pre_spec hpre.2.2 hpre.2.1
  obtain ⟨k, o, h1, h2, h3, hQ⟩ := lw_walk l hflags b xs p e ha hc hk s m args below hf ((Spec.applies_iff_loose hf).mp happ).1 hP trivial
  exact ⟨k, o, h1, h2, h3, hQ⟩
theorem lw_frame {s t : State} {o : Outcome} {args : Array Value} (h : Framed s o t [] 600000 7302250) :
    Framed s o t (fieldLocs frame_1_writes args s ++ arrayLocs frame_1_arrays args s ++ staticLocs frame_1_statics s) 600000 7302250 := h
theorem lw_limb (L : Cond) (hL : ∀ (args : Array Value) (s t : State), L.after args s (.returned (some (.int 1))) t = true) :
    ArmFor flags0 classFile x code maxLocals ret World_1 tables_1 room_1 Calls_1 rest_1 Pre_1
      (fun tb e a s o t => postC L tb e a s o t ∧ Framed s o t (fieldLocs frame_1_writes a s ++ arrayLocs frame_1_arrays a s ++ staticLocs frame_1_statics s) 600000 7302250) := by
  intro l hflags _ _ p e ha hc hk s m args below hf hfit hheap happ hpre
  obtain ⟨k, o, h1, h2, h3, rfl, hF⟩ := lw_comes l hflags p e ha hc hk s m args below hf hfit hheap happ hpre
  exact ⟨k, _, h1, h2, h3, hL args s _, lw_frame hF⟩
theorem i_vc : Claimed_1_1 ∧ Claimed_1_2 := ⟨lw_limb limb_1_1 (fun args s t => by simp [limb_1_1, Cond.after, Cond.holds, Cond.value]), lw_limb limb_1_2 (fun args s t => Cond.after_iff.mpr (by
  first | (rw [show limb_1_2 = Cond.eq .result (.int 1) from rfl, Cond.eq_ints (x := 1) (y := 1) rfl rfl]; simp; done) | (simp [limb_1_2, Cond.value, Term.eval]; done)))⟩
