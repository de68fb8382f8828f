/-! ===== memory: cell, slot; the layout of the cells behind the two constructors ===== -/
abbrev Mem : Type := Nat → Nat → Int
abbrev qS : Type := (Nat × List Nat) ⊕ ((Nat × Nat) ⊕ (Nat × Nat × Nat × Nat))
def SHL : List qS := [.inl (9, [3, 4, 5, 8, 15, 17, 20, 21, 24, 34, 38, 39, 0, 0, 1, 1]), .inr (.inr (2, 6, 38, 2)), .inr (.inr (3, 4, 50, 2)), .inl (4, [6, 7, 0, 0]), .inr (.inl (0, 15)), .inr (.inl (0, 16)), .inl (8, [9, 10, 11, 12, 13, 14, 0, 0]), .inr (.inl (0, 5)), .inr (.inl (0, 6)), .inr (.inl (0, 4)), .inr (.inl (0, 4)), .inr (.inl (0, 4)), .inr (.inl (0, 4)), .inl (1, [16, 0, 0, 0, 0]), .inr (.inl (0, 16)), .inl (2, [18, 19, 0]), .inr (.inl (0, 976)), .inr (.inl (0, 4)), .inr (.inr (4, 3, 58, 3)), .inl (3, [22, 0]), .inl (1, [23, 0, 0, 0, 0]), .inr (.inl (0, 16)), .inl (6, [25, 26, 27, 0, 0, 0, 0, 0]), .inr (.inr (5, 3, 26, 2)), .inr (.inl (0, 3)), .inr (.inl (0, 3)), .inl (1, [29, 0, 0, 0, 0]), .inr (.inl (0, 16)), .inl (1, [31, 0, 0, 0, 0]), .inr (.inl (0, 16)), .inl (1, [33, 0, 0, 0, 0]), .inr (.inl (0, 16)), .inl (0, [35, 37]), .inl (1, [36, 0, 0, 0, 0]), .inr (.inl (0, 16)), .inr (.inl (0, 128)), .inr (.inl (0, 5)), .inr (.inl (0, 6)), .inl (5, [41, 0]), .inr (.inl (0, 40)), .inl (5, [43, 0]), .inr (.inl (0, 40)), .inl (5, [45, 0]), .inr (.inl (0, 40)), .inl (5, [47, 0]), .inr (.inl (0, 40)), .inl (5, [49, 0]), .inr (.inl (0, 40)), .inl (5, [51, 0]), .inr (.inl (0, 40)), .inl (7, [53, 0]), .inr (.inl (1, 60)), .inl (7, [55, 0]), .inr (.inl (1, 60)), .inl (7, [57, 0]), .inr (.inl (1, 60)), .inl (7, [59, 0]), .inr (.inl (1, 60)), .inl (2, [61, 62, 0]), .inr (.inl (0, 976)), .inr (.inl (0, 4)), .inl (2, [64, 65, 0]), .inr (.inl (0, 976)), .inr (.inl (0, 4)), .inl (2, [67, 68, 0]), .inr (.inl (0, 976)), .inr (.inl (0, 4)), .inl (10, [0, 0, 70, 71, 72, 73, 74, 75, 0, 76, 0, 1, 1, 0, 77, 78, 79, 80, 81, 82, 83, 84, 85, 86, 0, 0, 0, 0, 87, 88, 89, 90, 91, 92, 93, 0, 0, 94, 95]), .inr (.inl (0, 5)), .inr (.inl (0, 4)), .inr (.inl (0, 4)), .inr (.inl (0, 4)), .inr (.inl (0, 4)), .inr (.inl (0, 16)), .inr (.inl (0, 960)), .inr (.inl (0, 6)), .inr (.inl (0, 6)), .inr (.inl (0, 240)), .inr (.inl (0, 4)), .inr (.inl (0, 240)), .inr (.inl (0, 3)), .inr (.inl (0, 48)), .inr (.inl (0, 2880)), .inr (.inl (0, 12)), .inr (.inl (0, 40)), .inr (.inl (0, 5)), .inr (.inl (0, 5)), .inr (.inl (0, 5)), .inr (.inl (0, 4)), .inr (.inl (0, 4)), .inr (.inl (0, 4)), .inr (.inl (0, 4)), .inr (.inl (0, 16)), .inr (.inl (0, 128))]
def shp (k : Nat) : qS := SHL.getD k (.inr (.inl (0, 0)))
def mkv (k : Nat) (z : Int) : Value := match k with
  | 0 => .int (iI z)
  | 1 => .long (iL z)
  | r + 2 => .ref r
def mkc (s : qS) (f : Nat → Int) : qE := match s with
  | .inl (c, ks) => .inr (c, ks.mapIdx (fun p k => mkv k (f p)))
  | .inr (.inl (t, n)) => .inl (t, n, .inl (fun j => iI (f j)))
  | .inr (.inr (t, n, b, st)) => .inl (t, n, .inr (.inr (.inr (.inr (fun j => if j < n then some (b + st * j) else none)))))
def lay (μ : Mem) : qH := (List.range qN).map (fun k => mkc (shp k) (μ k))
theorem lay_len {μ : Mem} : (lay μ).length = qN := by simp [lay]
theorem lay_get {μ : Mem} {k : Nat} (h : k < qN) : (lay μ)[k]? = some (mkc (shp k) (μ k)) := by
  rw [lay, List.getElem?_map, List.getElem?_range h]; rfl
theorem lay_set {μ μ' : Mem} {k : Nat} {e : qE} (hk : k < qN) (he : e = mkc (shp k) (μ' k)) (ho : ∀ j, j ≠ k → μ' j = μ j) : (lay μ).set k e = lay μ' := by
  apply List.ext_getElem?
  intro i
  rw [List.getElem?_set, lay_len]
  by_cases h : k = i
  · subst h
    rw [if_pos rfl, if_pos hk, lay_get hk, he]
  · rw [if_neg h]
    by_cases hi : i < qN
    · rw [lay_get hi, lay_get hi, ho i (fun z => h z.symm)]
    · rw [List.getElem?_eq_none (by rw [lay_len]; omega), List.getElem?_eq_none (by rw [lay_len]; omega)]
def wr (μ : Mem) (k p : Nat) (z : Int) : Mem := fun j q => if j = k ∧ q = p then z else μ j q
theorem wr_row {μ : Mem} {k p : Nat} {z : Int} : wr μ k p z k = fun q => if q = p then z else μ k q := by funext q; simp [wr]
theorem wr_off {μ : Mem} {k p : Nat} {z : Int} {j : Nat} (h : j ≠ k) : wr μ k p z j = μ j := by funext q; simp [wr, h]
def cpy (μ : Mem) (k k' sp dp n : Nat) : Mem := fun j q => if j = k' ∧ dp ≤ q ∧ q < dp + n then μ k (sp + (q - dp)) else μ j q
theorem mapIdx_put {ks : List Nat} {f : Nat → Int} {k q0 : Nat} {z : Int} (h : ks[k]? = some q0) : (ks.mapIdx (fun p q => mkv q (f p))).set k (mkv q0 z) = ks.mapIdx (fun p q => mkv q (if p = k then z else f p)) := by
  apply List.ext_getElem?
  intro i
  rw [List.getElem?_set, List.length_mapIdx, List.getElem?_mapIdx, List.getElem?_mapIdx]
  have hl := (List.getElem?_eq_some_iff.mp h).1
  by_cases e : k = i
  · subst e
    rw [if_pos rfl, if_pos hl, h]; simp
  · rw [if_neg e]
    have e2 : ¬ i = k := fun z => e z.symm
    simp [e2]
/-! ===== what functional programs are made of ===== -/
def ck {α : Type} (a : Int) (n : Nat) (F : Option α) : Option α := if 0 ≤ w32 a ∧ w32 a < (n : Int) then F else none
def ckz {α : Type} (a : Int) (F : Option α) : Option α := if w32 a = 0 then none else F
def ckl {α : Type} (a : Int) (F : Option α) : Option α := if w64 a = 0 then none else F
def ckb {α : Type} (a : Int) (F : Option α) : Option α := if a = 0 ∨ a = 1 then F else none
def ckc {α : Type} (sp dp m : Int) (n n' : Nat) (F : Option α) : Option α := if 0 ≤ w32 sp ∧ 0 ≤ w32 dp ∧ 0 ≤ w32 m ∧ w32 sp + w32 m ≤ (n : Int) ∧ w32 dp + w32 m ≤ (n' : Int) then F else none
def bd {ρ σ : Type} (o : Option (ρ × Mem)) (k : ρ → Mem → Option (σ × Mem)) : Option (σ × Mem) := match o with
  | none => none
  | some (x, μ) => k x μ
def vl {α : Type} (V : Int) (T : Int → α) : α := T V
def vm {α : Type} (M : Mem) (T : Mem → α) : α := T M
def jn {κ β : Type} (K : κ) (body : κ → β) : β := body K
def eI (x : Int) : Option Value := some (.int (iI x))
def eL (x : Int) : Option Value := some (.long (iL x))
def eU (_ : Unit) : Option Value := none
def lf {ρ : Type} (em : ρ → Option Value) (F : Option (ρ × Mem)) : Option (Option Value × qH) := F.map (fun q => (em q.1, lay q.2))
section JT
variable {l : Launch} {G : qG} {y : MethodName} {cc : ByteArray} {mL d : Nat} {rt : Option FieldType} {pc : Nat} {L L' : List (Option Value)} {st : List Value} {μ : Mem} {ρ : Type} {em : ρ → Option Value} {F F1 F2 : Option (ρ × Mem)}
theorem T_none : qJ l G y cc mL rt d pc L st (lay μ) (lf em none) := qJ_none
theorem T_icmp_eq {a b : Int} {off : Int} {tgt : Nat} (hd : decode cc pc = .ok (.if_icmp .eq off, 3)) (ht : (pc : Int) + off = (tgt : Int)) (kt : w32 a = w32 b → qJ l G y cc mL rt d tgt L st (lay μ) (lf em F1)) (kf : ¬ w32 a = w32 b → qJ l G y cc mL rt d (pc + 3) L st (lay μ) (lf em F2)) : qJ l G y cc mL rt d pc L (.int (iI b) :: .int (iI a) :: st) (lay μ) (lf em (if w32 a = w32 b then F1 else F2)) := by
  rw [show lf em (if w32 a = w32 b then F1 else F2) = if w32 a = w32 b then lf em F1 else lf em F2 by split <;> rfl]
  exact J_icmp_eq hd ht kt kf
theorem T_icmp_eq_same {a b : Int} {off : Int} {tgt : Nat} (hd : decode cc pc = .ok (.if_icmp .eq off, 3)) (ht : (pc : Int) + off = (tgt : Int)) (kt : w32 a = w32 b → qJ l G y cc mL rt d tgt L st (lay μ) (lf em F)) (kf : ¬ w32 a = w32 b → qJ l G y cc mL rt d (pc + 3) L st (lay μ) (lf em F)) : qJ l G y cc mL rt d pc L (.int (iI b) :: .int (iI a) :: st) (lay μ) (lf em F) := by
  have h := T_icmp_eq hd ht kt kf
  rw [ite_self] at h
  exact h
theorem T_icmp_ne {a b : Int} {off : Int} {tgt : Nat} (hd : decode cc pc = .ok (.if_icmp .ne off, 3)) (ht : (pc : Int) + off = (tgt : Int)) (kt : ¬ w32 a = w32 b → qJ l G y cc mL rt d tgt L st (lay μ) (lf em F2)) (kf : w32 a = w32 b → qJ l G y cc mL rt d (pc + 3) L st (lay μ) (lf em F1)) : qJ l G y cc mL rt d pc L (.int (iI b) :: .int (iI a) :: st) (lay μ) (lf em (if w32 a = w32 b then F1 else F2)) := by
  rw [show lf em (if w32 a = w32 b then F1 else F2) = if w32 a = w32 b then lf em F1 else lf em F2 by split <;> rfl]
  exact J_icmp_ne hd ht kt kf
theorem T_icmp_ne_same {a b : Int} {off : Int} {tgt : Nat} (hd : decode cc pc = .ok (.if_icmp .ne off, 3)) (ht : (pc : Int) + off = (tgt : Int)) (kt : ¬ w32 a = w32 b → qJ l G y cc mL rt d tgt L st (lay μ) (lf em F)) (kf : w32 a = w32 b → qJ l G y cc mL rt d (pc + 3) L st (lay μ) (lf em F)) : qJ l G y cc mL rt d pc L (.int (iI b) :: .int (iI a) :: st) (lay μ) (lf em F) := by
  have h := T_icmp_ne hd ht kt kf
  rw [ite_self] at h
  exact h
theorem T_icmp_lt {a b : Int} {off : Int} {tgt : Nat} (hd : decode cc pc = .ok (.if_icmp .lt off, 3)) (ht : (pc : Int) + off = (tgt : Int)) (kt : w32 a < w32 b → qJ l G y cc mL rt d tgt L st (lay μ) (lf em F1)) (kf : ¬ w32 a < w32 b → qJ l G y cc mL rt d (pc + 3) L st (lay μ) (lf em F2)) : qJ l G y cc mL rt d pc L (.int (iI b) :: .int (iI a) :: st) (lay μ) (lf em (if w32 a < w32 b then F1 else F2)) := by
  rw [show lf em (if w32 a < w32 b then F1 else F2) = if w32 a < w32 b then lf em F1 else lf em F2 by split <;> rfl]
  exact J_icmp_lt hd ht kt kf
theorem T_icmp_lt_same {a b : Int} {off : Int} {tgt : Nat} (hd : decode cc pc = .ok (.if_icmp .lt off, 3)) (ht : (pc : Int) + off = (tgt : Int)) (kt : w32 a < w32 b → qJ l G y cc mL rt d tgt L st (lay μ) (lf em F)) (kf : ¬ w32 a < w32 b → qJ l G y cc mL rt d (pc + 3) L st (lay μ) (lf em F)) : qJ l G y cc mL rt d pc L (.int (iI b) :: .int (iI a) :: st) (lay μ) (lf em F) := by
  have h := T_icmp_lt hd ht kt kf
  rw [ite_self] at h
  exact h
theorem T_icmp_ge {a b : Int} {off : Int} {tgt : Nat} (hd : decode cc pc = .ok (.if_icmp .ge off, 3)) (ht : (pc : Int) + off = (tgt : Int)) (kt : ¬ w32 a < w32 b → qJ l G y cc mL rt d tgt L st (lay μ) (lf em F2)) (kf : w32 a < w32 b → qJ l G y cc mL rt d (pc + 3) L st (lay μ) (lf em F1)) : qJ l G y cc mL rt d pc L (.int (iI b) :: .int (iI a) :: st) (lay μ) (lf em (if w32 a < w32 b then F1 else F2)) := by
  rw [show lf em (if w32 a < w32 b then F1 else F2) = if w32 a < w32 b then lf em F1 else lf em F2 by split <;> rfl]
  exact J_icmp_ge hd ht kt kf
theorem T_icmp_ge_same {a b : Int} {off : Int} {tgt : Nat} (hd : decode cc pc = .ok (.if_icmp .ge off, 3)) (ht : (pc : Int) + off = (tgt : Int)) (kt : ¬ w32 a < w32 b → qJ l G y cc mL rt d tgt L st (lay μ) (lf em F)) (kf : w32 a < w32 b → qJ l G y cc mL rt d (pc + 3) L st (lay μ) (lf em F)) : qJ l G y cc mL rt d pc L (.int (iI b) :: .int (iI a) :: st) (lay μ) (lf em F) := by
  have h := T_icmp_ge hd ht kt kf
  rw [ite_self] at h
  exact h
theorem T_icmp_gt {a b : Int} {off : Int} {tgt : Nat} (hd : decode cc pc = .ok (.if_icmp .gt off, 3)) (ht : (pc : Int) + off = (tgt : Int)) (kt : w32 b < w32 a → qJ l G y cc mL rt d tgt L st (lay μ) (lf em F1)) (kf : ¬ w32 b < w32 a → qJ l G y cc mL rt d (pc + 3) L st (lay μ) (lf em F2)) : qJ l G y cc mL rt d pc L (.int (iI b) :: .int (iI a) :: st) (lay μ) (lf em (if w32 b < w32 a then F1 else F2)) := by
  rw [show lf em (if w32 b < w32 a then F1 else F2) = if w32 b < w32 a then lf em F1 else lf em F2 by split <;> rfl]
  exact J_icmp_gt hd ht kt kf
theorem T_icmp_gt_same {a b : Int} {off : Int} {tgt : Nat} (hd : decode cc pc = .ok (.if_icmp .gt off, 3)) (ht : (pc : Int) + off = (tgt : Int)) (kt : w32 b < w32 a → qJ l G y cc mL rt d tgt L st (lay μ) (lf em F)) (kf : ¬ w32 b < w32 a → qJ l G y cc mL rt d (pc + 3) L st (lay μ) (lf em F)) : qJ l G y cc mL rt d pc L (.int (iI b) :: .int (iI a) :: st) (lay μ) (lf em F) := by
  have h := T_icmp_gt hd ht kt kf
  rw [ite_self] at h
  exact h
theorem T_icmp_le {a b : Int} {off : Int} {tgt : Nat} (hd : decode cc pc = .ok (.if_icmp .le off, 3)) (ht : (pc : Int) + off = (tgt : Int)) (kt : ¬ w32 b < w32 a → qJ l G y cc mL rt d tgt L st (lay μ) (lf em F2)) (kf : w32 b < w32 a → qJ l G y cc mL rt d (pc + 3) L st (lay μ) (lf em F1)) : qJ l G y cc mL rt d pc L (.int (iI b) :: .int (iI a) :: st) (lay μ) (lf em (if w32 b < w32 a then F1 else F2)) := by
  rw [show lf em (if w32 b < w32 a then F1 else F2) = if w32 b < w32 a then lf em F1 else lf em F2 by split <;> rfl]
  exact J_icmp_le hd ht kt kf
theorem T_icmp_le_same {a b : Int} {off : Int} {tgt : Nat} (hd : decode cc pc = .ok (.if_icmp .le off, 3)) (ht : (pc : Int) + off = (tgt : Int)) (kt : ¬ w32 b < w32 a → qJ l G y cc mL rt d tgt L st (lay μ) (lf em F)) (kf : w32 b < w32 a → qJ l G y cc mL rt d (pc + 3) L st (lay μ) (lf em F)) : qJ l G y cc mL rt d pc L (.int (iI b) :: .int (iI a) :: st) (lay μ) (lf em F) := by
  have h := T_icmp_le hd ht kt kf
  rw [ite_self] at h
  exact h
theorem T_if_eq {a : Int} {off : Int} {tgt : Nat} (hd : decode cc pc = .ok (.ifCond .eq off, 3)) (ht : (pc : Int) + off = (tgt : Int)) (kt : w32 a = 0 → qJ l G y cc mL rt d tgt L st (lay μ) (lf em F1)) (kf : ¬ w32 a = 0 → qJ l G y cc mL rt d (pc + 3) L st (lay μ) (lf em F2)) : qJ l G y cc mL rt d pc L (.int (iI a) :: st) (lay μ) (lf em (if w32 a = 0 then F1 else F2)) := by
  rw [show lf em (if w32 a = 0 then F1 else F2) = if w32 a = 0 then lf em F1 else lf em F2 by split <;> rfl]
  exact J_if_eq hd ht kt kf
theorem T_if_eq_same {a : Int} {off : Int} {tgt : Nat} (hd : decode cc pc = .ok (.ifCond .eq off, 3)) (ht : (pc : Int) + off = (tgt : Int)) (kt : w32 a = 0 → qJ l G y cc mL rt d tgt L st (lay μ) (lf em F)) (kf : ¬ w32 a = 0 → qJ l G y cc mL rt d (pc + 3) L st (lay μ) (lf em F)) : qJ l G y cc mL rt d pc L (.int (iI a) :: st) (lay μ) (lf em F) := by
  have h := T_if_eq hd ht kt kf
  rw [ite_self] at h
  exact h
theorem T_if_ne {a : Int} {off : Int} {tgt : Nat} (hd : decode cc pc = .ok (.ifCond .ne off, 3)) (ht : (pc : Int) + off = (tgt : Int)) (kt : ¬ w32 a = 0 → qJ l G y cc mL rt d tgt L st (lay μ) (lf em F2)) (kf : w32 a = 0 → qJ l G y cc mL rt d (pc + 3) L st (lay μ) (lf em F1)) : qJ l G y cc mL rt d pc L (.int (iI a) :: st) (lay μ) (lf em (if w32 a = 0 then F1 else F2)) := by
  rw [show lf em (if w32 a = 0 then F1 else F2) = if w32 a = 0 then lf em F1 else lf em F2 by split <;> rfl]
  exact J_if_ne hd ht kt kf
theorem T_if_ne_same {a : Int} {off : Int} {tgt : Nat} (hd : decode cc pc = .ok (.ifCond .ne off, 3)) (ht : (pc : Int) + off = (tgt : Int)) (kt : ¬ w32 a = 0 → qJ l G y cc mL rt d tgt L st (lay μ) (lf em F)) (kf : w32 a = 0 → qJ l G y cc mL rt d (pc + 3) L st (lay μ) (lf em F)) : qJ l G y cc mL rt d pc L (.int (iI a) :: st) (lay μ) (lf em F) := by
  have h := T_if_ne hd ht kt kf
  rw [ite_self] at h
  exact h
theorem T_if_lt {a : Int} {off : Int} {tgt : Nat} (hd : decode cc pc = .ok (.ifCond .lt off, 3)) (ht : (pc : Int) + off = (tgt : Int)) (kt : w32 a < 0 → qJ l G y cc mL rt d tgt L st (lay μ) (lf em F1)) (kf : ¬ w32 a < 0 → qJ l G y cc mL rt d (pc + 3) L st (lay μ) (lf em F2)) : qJ l G y cc mL rt d pc L (.int (iI a) :: st) (lay μ) (lf em (if w32 a < 0 then F1 else F2)) := by
  rw [show lf em (if w32 a < 0 then F1 else F2) = if w32 a < 0 then lf em F1 else lf em F2 by split <;> rfl]
  exact J_if_lt hd ht kt kf
theorem T_if_lt_same {a : Int} {off : Int} {tgt : Nat} (hd : decode cc pc = .ok (.ifCond .lt off, 3)) (ht : (pc : Int) + off = (tgt : Int)) (kt : w32 a < 0 → qJ l G y cc mL rt d tgt L st (lay μ) (lf em F)) (kf : ¬ w32 a < 0 → qJ l G y cc mL rt d (pc + 3) L st (lay μ) (lf em F)) : qJ l G y cc mL rt d pc L (.int (iI a) :: st) (lay μ) (lf em F) := by
  have h := T_if_lt hd ht kt kf
  rw [ite_self] at h
  exact h
theorem T_if_ge {a : Int} {off : Int} {tgt : Nat} (hd : decode cc pc = .ok (.ifCond .ge off, 3)) (ht : (pc : Int) + off = (tgt : Int)) (kt : ¬ w32 a < 0 → qJ l G y cc mL rt d tgt L st (lay μ) (lf em F2)) (kf : w32 a < 0 → qJ l G y cc mL rt d (pc + 3) L st (lay μ) (lf em F1)) : qJ l G y cc mL rt d pc L (.int (iI a) :: st) (lay μ) (lf em (if w32 a < 0 then F1 else F2)) := by
  rw [show lf em (if w32 a < 0 then F1 else F2) = if w32 a < 0 then lf em F1 else lf em F2 by split <;> rfl]
  exact J_if_ge hd ht kt kf
theorem T_if_ge_same {a : Int} {off : Int} {tgt : Nat} (hd : decode cc pc = .ok (.ifCond .ge off, 3)) (ht : (pc : Int) + off = (tgt : Int)) (kt : ¬ w32 a < 0 → qJ l G y cc mL rt d tgt L st (lay μ) (lf em F)) (kf : w32 a < 0 → qJ l G y cc mL rt d (pc + 3) L st (lay μ) (lf em F)) : qJ l G y cc mL rt d pc L (.int (iI a) :: st) (lay μ) (lf em F) := by
  have h := T_if_ge hd ht kt kf
  rw [ite_self] at h
  exact h
theorem T_if_gt {a : Int} {off : Int} {tgt : Nat} (hd : decode cc pc = .ok (.ifCond .gt off, 3)) (ht : (pc : Int) + off = (tgt : Int)) (kt : 0 < w32 a → qJ l G y cc mL rt d tgt L st (lay μ) (lf em F1)) (kf : ¬ 0 < w32 a → qJ l G y cc mL rt d (pc + 3) L st (lay μ) (lf em F2)) : qJ l G y cc mL rt d pc L (.int (iI a) :: st) (lay μ) (lf em (if 0 < w32 a then F1 else F2)) := by
  rw [show lf em (if 0 < w32 a then F1 else F2) = if 0 < w32 a then lf em F1 else lf em F2 by split <;> rfl]
  exact J_if_gt hd ht kt kf
theorem T_if_gt_same {a : Int} {off : Int} {tgt : Nat} (hd : decode cc pc = .ok (.ifCond .gt off, 3)) (ht : (pc : Int) + off = (tgt : Int)) (kt : 0 < w32 a → qJ l G y cc mL rt d tgt L st (lay μ) (lf em F)) (kf : ¬ 0 < w32 a → qJ l G y cc mL rt d (pc + 3) L st (lay μ) (lf em F)) : qJ l G y cc mL rt d pc L (.int (iI a) :: st) (lay μ) (lf em F) := by
  have h := T_if_gt hd ht kt kf
  rw [ite_self] at h
  exact h
theorem T_if_le {a : Int} {off : Int} {tgt : Nat} (hd : decode cc pc = .ok (.ifCond .le off, 3)) (ht : (pc : Int) + off = (tgt : Int)) (kt : ¬ 0 < w32 a → qJ l G y cc mL rt d tgt L st (lay μ) (lf em F2)) (kf : 0 < w32 a → qJ l G y cc mL rt d (pc + 3) L st (lay μ) (lf em F1)) : qJ l G y cc mL rt d pc L (.int (iI a) :: st) (lay μ) (lf em (if 0 < w32 a then F1 else F2)) := by
  rw [show lf em (if 0 < w32 a then F1 else F2) = if 0 < w32 a then lf em F1 else lf em F2 by split <;> rfl]
  exact J_if_le hd ht kt kf
theorem T_if_le_same {a : Int} {off : Int} {tgt : Nat} (hd : decode cc pc = .ok (.ifCond .le off, 3)) (ht : (pc : Int) + off = (tgt : Int)) (kt : ¬ 0 < w32 a → qJ l G y cc mL rt d tgt L st (lay μ) (lf em F)) (kf : 0 < w32 a → qJ l G y cc mL rt d (pc + 3) L st (lay μ) (lf em F)) : qJ l G y cc mL rt d pc L (.int (iI a) :: st) (lay μ) (lf em F) := by
  have h := T_if_le hd ht kt kf
  rw [ite_self] at h
  exact h
theorem T_idiv {a b : Int} (hd : decode cc pc = .ok (.idiv, 1)) (kk : qJ l G y cc mL rt d (pc + 1) L (.int (iI (zdiv a b)) :: st) (lay μ) (lf em F)) : qJ l G y cc mL rt d pc L (.int (iI b) :: .int (iI a) :: st) (lay μ) (lf em (ckz b F)) := by
  unfold ckz
  rw [show lf em (if w32 b = 0 then none else F) = if w32 b = 0 then none else lf em F by split <;> rfl]
  exact J_idiv hd kk
theorem T_irem {a b : Int} (hd : decode cc pc = .ok (.irem, 1)) (kk : qJ l G y cc mL rt d (pc + 1) L (.int (iI (zrem a b)) :: st) (lay μ) (lf em F)) : qJ l G y cc mL rt d pc L (.int (iI b) :: .int (iI a) :: st) (lay μ) (lf em (ckz b F)) := by
  unfold ckz
  rw [show lf em (if w32 b = 0 then none else F) = if w32 b = 0 then none else lf em F by split <;> rfl]
  exact J_irem hd kk
theorem T_ldiv {a b : Int} (hd : decode cc pc = .ok (.ldiv, 1)) (kk : qJ l G y cc mL rt d (pc + 1) L (.long (iL (ydiv a b)) :: st) (lay μ) (lf em F)) : qJ l G y cc mL rt d pc L (.long (iL b) :: .long (iL a) :: st) (lay μ) (lf em (ckl b F)) := by
  unfold ckl
  rw [show lf em (if w64 b = 0 then none else F) = if w64 b = 0 then none else lf em F by split <;> rfl]
  exact J_ldiv hd kk
theorem T_lrem {a b : Int} (hd : decode cc pc = .ok (.lrem, 1)) (kk : qJ l G y cc mL rt d (pc + 1) L (.long (iL (yrem a b)) :: st) (lay μ) (lf em F)) : qJ l G y cc mL rt d pc L (.long (iL b) :: .long (iL a) :: st) (lay μ) (lf em (ckl b F)) := by
  unfold ckl
  rw [show lf em (if w64 b = 0 then none else F) = if w64 b = 0 then none else lf em F by split <;> rfl]
  exact J_lrem hd kk
theorem T_vlI {V : Int} {T : Int → Option (ρ × Mem)} (k : ∀ v, v = V → qJ l G y cc mL rt d pc L (.int (iI v) :: st) (lay μ) (lf em (T v))) : qJ l G y cc mL rt d pc L (.int (iI V) :: st) (lay μ) (lf em (vl V T)) := k V rfl
theorem T_vlL {V : Int} {T : Int → Option (ρ × Mem)} (k : ∀ v, v = V → qJ l G y cc mL rt d pc L (.long (iL v) :: st) (lay μ) (lf em (T v))) : qJ l G y cc mL rt d pc L (.long (iL V) :: st) (lay μ) (lf em (vl V T)) := k V rfl
theorem T_vl {V : Int} {T : Int → Option (ρ × Mem)} (k : ∀ v, v = V → qJ l G y cc mL rt d pc L st (lay μ) (lf em (T v))) : qJ l G y cc mL rt d pc L st (lay μ) (lf em (vl V T)) := k V rfl
theorem T_vm {M : Mem} {T : Mem → Option (ρ × Mem)} (k : ∀ m, m = M → qJ l G y cc mL rt d pc L st (lay m) (lf em (T m))) : qJ l G y cc mL rt d pc L st (lay M) (lf em (vm M T)) := k M rfl
theorem T_top {a v : Int} (h : v = a) (k : qJ l G y cc mL rt d pc L (.int (iI v) :: st) (lay μ) (lf em F)) : qJ l G y cc mL rt d pc L (.int (iI a) :: st) (lay μ) (lf em F) := h ▸ k
theorem T_dia {j : Nat} {v : Int} {LT : List (Option Value)} {sT : List Value} (k : qJ l G y cc mL rt d j LT (.int (iI v) :: sT) (lay μ) (lf em F)) (h : qJ l G y cc mL rt d j LT (.int (iI v) :: sT) (lay μ) (lf em F) → qJ l G y cc mL rt d pc L st (lay μ) (lf em F)) : qJ l G y cc mL rt d pc L st (lay μ) (lf em F) := h k
theorem T_jn {κ : Type} {K : κ} {body : κ → Option (ρ × Mem)} (P : κ → Prop) (hK : P K) (hb : ∀ k, P k → qJ l G y cc mL rt d pc L st (lay μ) (lf em (body k))) : qJ l G y cc mL rt d pc L st (lay μ) (lf em (jn K body)) := hb K hK
def dropL : List (Option Value) → List Bool → List (Option Value)
  | [], _ => []
  | _, [] => []
  | v :: vs, b :: bs => (if b = true then v else none) :: dropL vs bs
theorem dropL_sub : ∀ (L : List (Option Value)) (bs : List Bool) (i : Nat) (v : Value), (dropL L bs)[i]? = some (some v) → L[i]? = some (some v)
  | [], _, i, v, h => by simp [dropL] at h
  | _ :: _, [], i, v, h => by simp [dropL] at h
  | w :: ws, b :: bs, 0, v, h => by
    cases b with
    | true => simpa [dropL] using h
    | false => simp [dropL] at h
  | w :: ws, b :: bs, i + 1, v, h => by
    have h2 : (dropL ws bs)[i]? = some (some v) := by simpa [dropL] using h
    simpa using dropL_sub ws bs i v h2
theorem J_dropf {A : qH} {F : Option (Option Value × qH)} (fl : List Bool) (h : dropL L fl = L') (kk : qJ l G y cc mL rt d pc L' st A F) : qJ l G y cc mL rt d pc L st A F := by
  subst h
  exact J_drop (dropL_sub L fl) kk
theorem T_getI {ci k N idx j : Nat} {C : String} {T : u_T} {ks : List Nat} (hc : qcl[ci]? = some (C, T, N)) (hin : ∀ w ∈ u_ws C T N, w ∈ qws) (hk : k < N) (hw : Cond.fieldLink y.cls idx (T k).1 (T k).2.1 (T k).2.2.1 ∈ qws) (hj : j < qN) (hs : shp j = .inl (ci, ks)) (hq : ks[k]? = some 0) (hd : decode cc pc = .ok (.getfield idx, 3)) (kk : qJ l G y cc mL rt d (pc + 3) L (.int (iI (μ j k)) :: st) (lay μ) (lf em F)) : qJ l G y cc mL rt d pc L (.ref j :: st) (lay μ) (lf em F) :=
  J_getfield hc hin hk hw hd (by rw [lay_get hj, hs]; rfl) (by rw [List.getElem?_mapIdx, hq]; rfl) kk
theorem T_getL {ci k N idx j : Nat} {C : String} {T : u_T} {ks : List Nat} (hc : qcl[ci]? = some (C, T, N)) (hin : ∀ w ∈ u_ws C T N, w ∈ qws) (hk : k < N) (hw : Cond.fieldLink y.cls idx (T k).1 (T k).2.1 (T k).2.2.1 ∈ qws) (hj : j < qN) (hs : shp j = .inl (ci, ks)) (hq : ks[k]? = some 1) (hd : decode cc pc = .ok (.getfield idx, 3)) (kk : qJ l G y cc mL rt d (pc + 3) L (.long (iL (μ j k)) :: st) (lay μ) (lf em F)) : qJ l G y cc mL rt d pc L (.ref j :: st) (lay μ) (lf em F) :=
  J_getfield hc hin hk hw hd (by rw [lay_get hj, hs]; rfl) (by rw [List.getElem?_mapIdx, hq]; rfl) kk
theorem T_getR {ci k N idx j r : Nat} {C : String} {T : u_T} {ks : List Nat} (hc : qcl[ci]? = some (C, T, N)) (hin : ∀ w ∈ u_ws C T N, w ∈ qws) (hk : k < N) (hw : Cond.fieldLink y.cls idx (T k).1 (T k).2.1 (T k).2.2.1 ∈ qws) (hj : j < qN) (hs : shp j = .inl (ci, ks)) (hq : ks[k]? = some (r + 2)) (hd : decode cc pc = .ok (.getfield idx, 3)) (kk : qJ l G y cc mL rt d (pc + 3) L (.ref r :: st) (lay μ) (lf em F)) : qJ l G y cc mL rt d pc L (.ref j :: st) (lay μ) (lf em F) :=
  J_getfield hc hin hk hw hd (by rw [lay_get hj, hs]; rfl) (by rw [List.getElem?_mapIdx, hq]; rfl) kk
theorem T_putI {ci k N idx j : Nat} {C : String} {T : u_T} {ks : List Nat} {z : Int} (hc : qcl[ci]? = some (C, T, N)) (hin : ∀ w ∈ u_ws C T N, w ∈ qws) (hk : k < N) (hw : Cond.fieldLink y.cls idx (T k).1 (T k).2.1 (T k).2.2.1 ∈ qws) (ty0 : Nat → FieldType) (hty : ∀ k, k < N → parseFieldDescriptor (T k).2.2.1 = some (ty0 k)) (hnm : ∀ a, a < N → ∀ b, b < N → a ≠ b → (T a).2.1 ≠ (T b).2.1) (hfin : (T k).2.2.2 = false) (hft : ty0 k = .int) (hj : j < qN) (hs : shp j = .inl (ci, ks)) (hq : ks[k]? = some 0) (hd : decode cc pc = .ok (.putfield idx, 3)) (kk : qJ l G y cc mL rt d (pc + 3) L st (lay (wr μ j k z)) (lf em F)) : qJ l G y cc mL rt d pc L (.int (iI z) :: .ref j :: st) (lay μ) (lf em F) := by
  refine J_putfield (fs := ks.mapIdx (fun p q => mkv q (μ j p))) hc hin hk hw ty0 hty hnm hfin hd (by rw [lay_get hj, hs]; rfl) (by rw [List.length_mapIdx]; exact (List.getElem?_eq_some_iff.mp hq).1) (by rw [hft]; rfl) (by rw [hft]; rfl) ?_
  rw [lay_set (μ' := wr μ j k z) hj ?_ (fun i hi => wr_off hi)]
  · exact kk
  · rw [hs, wr_row]
    show Sum.inr _ = Sum.inr _
    rw [show Value.int (iI z) = mkv 0 z from rfl, mapIdx_put hq]
theorem T_putL {ci k N idx j : Nat} {C : String} {T : u_T} {ks : List Nat} {z : Int} (hc : qcl[ci]? = some (C, T, N)) (hin : ∀ w ∈ u_ws C T N, w ∈ qws) (hk : k < N) (hw : Cond.fieldLink y.cls idx (T k).1 (T k).2.1 (T k).2.2.1 ∈ qws) (ty0 : Nat → FieldType) (hty : ∀ k, k < N → parseFieldDescriptor (T k).2.2.1 = some (ty0 k)) (hnm : ∀ a, a < N → ∀ b, b < N → a ≠ b → (T a).2.1 ≠ (T b).2.1) (hfin : (T k).2.2.2 = false) (hft : ty0 k = .long) (hj : j < qN) (hs : shp j = .inl (ci, ks)) (hq : ks[k]? = some 1) (hd : decode cc pc = .ok (.putfield idx, 3)) (kk : qJ l G y cc mL rt d (pc + 3) L st (lay (wr μ j k z)) (lf em F)) : qJ l G y cc mL rt d pc L (.long (iL z) :: .ref j :: st) (lay μ) (lf em F) := by
  refine J_putfield (fs := ks.mapIdx (fun p q => mkv q (μ j p))) hc hin hk hw ty0 hty hnm hfin hd (by rw [lay_get hj, hs]; rfl) (by rw [List.length_mapIdx]; exact (List.getElem?_eq_some_iff.mp hq).1) (by rw [hft]; rfl) (by rw [hft]; rfl) ?_
  rw [lay_set (μ' := wr μ j k z) hj ?_ (fun i hi => wr_off hi)]
  · exact kk
  · rw [hs, wr_row]
    show Sum.inr _ = Sum.inr _
    rw [show Value.long (iL z) = mkv 1 z from rfl, mapIdx_put hq]
theorem T_iaload {j n : Nat} {a : Int} (hj : j < qN) (hs : shp j = .inr (.inl (0, n))) (hd : decode cc pc = .ok (.iaload, 1)) (kk : (0 ≤ w32 a ∧ w32 a < (n : Int)) → qJ l G y cc mL rt d (pc + 1) L (.int (iI (μ j (w32 a).toNat)) :: st) (lay μ) (lf em F)) : qJ l G y cc mL rt d pc L (.int (iI a) :: .ref j :: st) (lay μ) (lf em (ck a n F)) := by
  by_cases h : 0 ≤ w32 a ∧ w32 a < (n : Int)
  · rw [ck, if_pos h]
    exact J_iaload (f := fun i => iI (μ j i)) hd (by rw [lay_get hj, hs]; rfl) h rfl (kk h)
  · rw [ck, if_neg h]; exact T_none
theorem T_baload {j n : Nat} {a : Int} (hj : j < qN) (hs : shp j = .inr (.inl (1, n))) (hd : decode cc pc = .ok (.baload, 1)) (kk : (0 ≤ w32 a ∧ w32 a < (n : Int)) → qJ l G y cc mL rt d (pc + 1) L (.int (iI (μ j (w32 a).toNat)) :: st) (lay μ) (lf em F)) : qJ l G y cc mL rt d pc L (.int (iI a) :: .ref j :: st) (lay μ) (lf em (ck a n F)) := by
  by_cases h : 0 ≤ w32 a ∧ w32 a < (n : Int)
  · rw [ck, if_pos h]
    exact J_baload (f := fun i => iI (μ j i)) hd (by rw [lay_get hj, hs]; rfl) h rfl (kk h)
  · rw [ck, if_neg h]; exact T_none
theorem T_letters {a : Int} (hd : decode cc pc = .ok (.iaload, 1)) (kk : (0 ≤ w32 a ∧ w32 a < 6) → qJ l G y cc mL rt d (pc + 1) L (.int (iI (letZ (w32 a).toNat)) :: st) (lay μ) (lf em F)) : qJ l G y cc mL rt d pc L (.int (iI a) :: .retAddr 1 :: st) (lay μ) (lf em (ck a 6 F)) := by
  by_cases h : 0 ≤ w32 a ∧ w32 a < ((6 : Nat) : Int)
  · rw [ck, if_pos h]
    exact J_roload (j := 1) hd (by decide) h rfl (kk h)
  · rw [ck, if_neg h]; exact T_none
theorem T_above {a : Int} (hd : decode cc pc = .ok (.iaload, 1)) (kk : (0 ≤ w32 a ∧ w32 a < 6) → qJ l G y cc mL rt d (pc + 1) L (.int (iI (abvZ (w32 a).toNat)) :: st) (lay μ) (lf em F)) : qJ l G y cc mL rt d pc L (.int (iI a) :: .retAddr 2 :: st) (lay μ) (lf em (ck a 6 F)) := by
  by_cases h : 0 ≤ w32 a ∧ w32 a < ((6 : Nat) : Int)
  · rw [ck, if_pos h]
    exact J_roload (j := 2) hd (by decide) h rfl (kk h)
  · rw [ck, if_neg h]; exact T_none
theorem T_script {a : Int} (hd : decode cc pc = .ok (.iaload, 1)) (kk : (0 ≤ w32 a ∧ w32 a < ((G.2.2.1 0).1 : Int)) → qJ l G y cc mL rt d (pc + 1) L (.int (iI ((G.2.2.1 0).2 (w32 a).toNat).toInt) :: st) (lay μ) (lf em F)) : qJ l G y cc mL rt d pc L (.int (iI a) :: .retAddr 0 :: st) (lay μ) (lf em (ck a (G.2.2.1 0).1 F)) := by
  by_cases h : 0 ≤ w32 a ∧ w32 a < ((G.2.2.1 0).1 : Int)
  · rw [ck, if_pos h]
    exact J_roload (j := 0) hd (by decide) h (iI_w _).symm (kk h)
  · rw [ck, if_neg h]; exact T_none
theorem T_scriptlen (hd : decode cc pc = .ok (.arraylength, 1)) (kk : qJ l G y cc mL rt d (pc + 1) L (.int (iI ((G.2.2.1 0).1 : Int)) :: st) (lay μ) (lf em F)) : qJ l G y cc mL rt d pc L (.retAddr 0 :: st) (lay μ) (lf em F) :=
  J_rolen (j := 0) hd (by decide) (by show Int32.ofNat _ = Int32.ofInt _; rw [Int32.ofInt_eq_ofNat]; rfl) kk
theorem T_alen {j t n : Nat} {ty : FieldType} (hj : j < qN) (hs : shp j = .inr (.inl (t, n))) (ht : (qty G)[t]? = some (G.2.2.2.2 t, ty)) (hd : decode cc pc = .ok (.arraylength, 1)) (kk : qJ l G y cc mL rt d (pc + 1) L (.int (iI (n : Int)) :: st) (lay μ) (lf em F)) : qJ l G y cc mL rt d pc L (.ref j :: st) (lay μ) (lf em F) :=
  J_alen (x := .inl (fun i => iI (μ j i))) hd (by rw [lay_get hj, hs]; rfl) ht (by show Int32.ofNat _ = Int32.ofInt _; rw [Int32.ofInt_eq_ofNat]) kk
theorem T_aaload {j t n b s : Nat} {C : String} {a : Int} (hj : j < qN) (hs : shp j = .inr (.inr (t, n, b, s))) (ht : (qty G)[t]? = some (G.2.2.2.2 t, .object C)) (hd : decode cc pc = .ok (.aaload, 1)) (kk : (0 ≤ w32 a ∧ w32 a < (n : Int)) → qJ l G y cc mL rt d (pc + 1) L (.ref (b + s * (w32 a).toNat) :: st) (lay μ) (lf em F)) : qJ l G y cc mL rt d pc L (.int (iI a) :: .ref j :: st) (lay μ) (lf em (ck a n F)) := by
  by_cases h : 0 ≤ w32 a ∧ w32 a < (n : Int)
  · rw [ck, if_pos h]
    exact J_aaload (f := fun i => if i < n then some (b + s * i) else none) hd (by rw [lay_get hj, hs]; rfl) ht h (if_pos (by omega)) (kk h)
  · rw [ck, if_neg h]; exact T_none
theorem upd_iI (f : Nat → Int) (k : Nat) (z : Int) : upd (fun i => iI (f i)) k (iI z) = fun i => iI (if i = k then z else f i) := by
  funext i
  by_cases h : i = k <;> simp [upd, h]
theorem T_iastore {j n : Nat} {a z : Int} (hj : j < qN) (hs : shp j = .inr (.inl (0, n))) (hd : decode cc pc = .ok (.iastore, 1)) (kk : (0 ≤ w32 a ∧ w32 a < (n : Int)) → qJ l G y cc mL rt d (pc + 1) L st (lay (wr μ j (w32 a).toNat z)) (lf em F)) : qJ l G y cc mL rt d pc L (.int (iI z) :: .int (iI a) :: .ref j :: st) (lay μ) (lf em (ck a n F)) := by
  by_cases h : 0 ≤ w32 a ∧ w32 a < (n : Int)
  · rw [ck, if_pos h]
    refine J_iastore (f := fun i => iI (μ j i)) hd (by rw [lay_get hj, hs]; rfl) h ?_
    rw [lay_set (μ' := wr μ j (w32 a).toNat z) hj ?_ (fun i hi => wr_off hi)]
    · exact kk h
    · rw [hs, wr_row, upd_iI]; rfl
  · rw [ck, if_neg h]; exact T_none
theorem T_bastore {j n : Nat} {a z : Int} (hj : j < qN) (hs : shp j = .inr (.inl (1, n))) (hd : decode cc pc = .ok (.bastore, 1)) (kk : (0 ≤ w32 a ∧ w32 a < (n : Int)) → qJ l G y cc mL rt d (pc + 1) L st (lay (wr μ j (w32 a).toNat (zi2b z))) (lf em F)) : qJ l G y cc mL rt d pc L (.int (iI z) :: .int (iI a) :: .ref j :: st) (lay μ) (lf em (ck a n F)) := by
  by_cases h : 0 ≤ w32 a ∧ w32 a < (n : Int)
  · rw [ck, if_pos h]
    refine J_bastore (f := fun i => iI (μ j i)) (Nat.le_of_eq lay_len.symm) hd (by rw [lay_get hj, hs]; rfl) h ?_
    rw [lay_set (μ' := wr μ j (w32 a).toNat (zi2b z)) hj ?_ (fun i hi => wr_off hi)]
    · exact kk h
    · rw [hs, wr_row, upd_iI]; rfl
  · rw [ck, if_neg h]; exact T_none
theorem T_copy {idx j j' n n' : Nat} {sp dp m : Int} (hd1 : 1 ≤ d) (hw : Cond.methodLink y.cls idx arraycopyName ∈ qws) (hst : (st.map Value.category).sum ≤ 8) (hj : j < qN) (hs : shp j = .inr (.inl (0, n))) (hj' : j' < qN) (hs' : shp j' = .inr (.inl (0, n'))) (hd : decode cc pc = .ok (.invokestatic idx, 3)) (kk : qJ l G y cc mL rt d (pc + 3) L st (lay (cpy μ j j' (w32 sp).toNat (w32 dp).toNat (w32 m).toNat)) (lf em F)) : qJ l G y cc mL rt d pc L (.int (iI m) :: .int (iI dp) :: .ref j' :: .int (iI sp) :: .ref j :: st) (lay μ) (lf em (ckc sp dp m n n' F)) := by
  unfold ckc
  split
  · next h =>
    obtain ⟨h1, h2, h3, h4, h5⟩ := h
    refine J_copy (f := fun i => iI (μ j i)) (f' := fun i => iI (μ j' i)) (Nat.le_of_eq lay_len.symm) hd1 hw hst hd (by rw [lay_get hj, hs]; rfl) (by rw [lay_get hj', hs']; rfl) h1 h2 h3 h4 h5 ?_
    rw [lay_set (μ' := cpy μ j j' (w32 sp).toNat (w32 dp).toNat (w32 m).toNat) hj' ?_ ?_]
    · exact kk
    · rw [hs']
      show Sum.inl _ = Sum.inl _
      congr 3
      show Sum.inl _ = Sum.inl _
      congr 1
      funext q
      unfold va_cpy cpy
      by_cases hq : (w32 dp).toNat ≤ q ∧ q < (w32 dp).toNat + (w32 m).toNat
      · rw [if_pos hq, if_pos ⟨rfl, hq⟩]
      · rw [if_neg hq, if_neg (fun z => hq z.2)]
    · intro i hi
      funext q
      simp [cpy, hi]
  · exact T_none
theorem nb {v : Int} (h : v = 0 ∨ v = 1) : narrow .boolean (.int (iI v)) = .int (iI v) := by rcases h with rfl | rfl <;> decide +kernel
theorem T_retI {x : Int} (hr : rt = some .int) (hd : decode cc pc = .ok (.ireturn, 1)) : qJ l G y cc mL rt d pc L [.int (iI x)] (lay μ) (lf eI (some (x, μ))) := J_ret (r := some (.int (iI x))) hd (Or.inl ⟨rfl, iI x, .int, rfl, hr, rfl⟩) rfl
theorem T_retZ {x : Int} (hr : rt = some .boolean) (hx : x = 0 ∨ x = 1) (hd : decode cc pc = .ok (.ireturn, 1)) : qJ l G y cc mL rt d pc L [.int (iI x)] (lay μ) (lf eI (some (x, μ))) := J_ret (r := some (.int (iI x))) hd (Or.inl ⟨rfl, iI x, .boolean, rfl, hr, nb hx⟩) rfl
theorem T_retB {x : Int} (hr : rt = some .boolean) (hd : decode cc pc = .ok (.ireturn, 1)) : qJ l G y cc mL rt d pc L [.int (iI x)] (lay μ) (lf eI (ckb x (some (x, μ)))) := by
  unfold ckb
  split
  · next h => exact T_retZ hr h hd
  · exact T_none
theorem T_retL {x : Int} (hr : rt = some .long) (hd : decode cc pc = .ok (.lreturn, 1)) : qJ l G y cc mL rt d pc L [.long (iL x)] (lay μ) (lf eL (some (x, μ))) := J_ret (r := some (.long (iL x))) hd (Or.inr (Or.inl ⟨rfl, hr, iL x, rfl⟩)) rfl
theorem T_retV (hr : rt = none) (hd : decode cc pc = .ok (.return_, 1)) : qJ l G y cc mL rt d pc L [] (lay μ) (lf eU (some ((), μ))) := J_ret (r := none) hd (Or.inr (Or.inr ⟨rfl, hr, rfl⟩)) rfl
def okV (y' : MethodName) (cc' : ByteArray) (mL' : Nat) (rt' : Option FieldType) (n : Nat) : Prop := Cond.instanceMethod y' ∈ qws ∧ Cond.selects y'.cls y' y' ∈ qws ∧ Cond.initialized y'.cls ∈ qws ∧ Cond.code y' cc' mL' rt' ∈ qws ∧ mL' ≤ 45 ∧ (y'.cls ≠ "java/lang/invoke/MethodHandle" ∧ y'.cls ≠ "java/lang/invoke/VarHandle" ∧ (parseMethodDescriptor y'.desc).map (fun d => d.parameters.length) = some n)
def okT (y' : MethodName) (cc' : ByteArray) (mL' : Nat) (rt' : Option FieldType) (n : Nat) : Prop := Cond.static y' ∈ qws ∧ Cond.initialized y'.cls ∈ qws ∧ Cond.code y' cc' mL' rt' ∈ qws ∧ mL' ≤ 45 ∧ (y'.cls ≠ "java/lang/invoke/MethodHandle" ∧ y'.cls ≠ "java/lang/invoke/VarHandle" ∧ (parseMethodDescriptor y'.desc).map (fun d => d.parameters.length) = some n)
theorem T_callVI {y' : MethodName} {cc' : ByteArray} {mL' d' idx k ci : Nat} {rt' : Option FieldType} {As : List Value} {ks : List Nat} {fc : Option (Int × Mem)} {K : Int → Mem → Option (ρ × Mem)} (ok : okV y' cc' mL' rt' As.length) (hw : Cond.methodLink y.cls idx y' ∈ qws) (hd : decode cc pc = .ok (.invokevirtual idx, 3)) (hk : k < qN) (hs : shp k = .inl (ci, ks)) (hq : (qcl[ci]?).map (fun q => q.1) = some y'.cls) (hdep : d' < d) (hst : (st.map Value.category).sum ≤ 8) (hM : qM l G d' y' cc' mL' rt' (.ref k :: As) (lay μ) (lf eI fc)) (kk : ∀ (x : Int) (m : Mem), fc = some (x, m) → qJ l G y cc mL rt d (pc + 3) L (.int (iI x) :: st) (lay m) (lf em (K x m))) : qJ l G y cc mL rt d pc L (As.reverse ++ .ref k :: st) (lay μ) (lf em (bd fc K)) := by
  have hne : lf eI fc = none → lf em (bd fc K) = none := by
    intro h
    cases hf : fc with
    | none => rfl
    | some q => rw [hf] at h; cases h
  have hkk : ∀ r A1, lf eI fc = some (r, A1) → qJ l G y cc mL rt d (pc + 3) L (r.toList ++ st) A1 (lf em (bd fc K)) := by
    intro r A1 h
    cases hf : fc with
    | none => rw [hf] at h; cases h
    | some q =>
      obtain ⟨x, m⟩ := q
      rw [hf] at h
      cases h
      exact kk x m hf
  obtain ⟨h1, h2, h3, h4, h5, h6⟩ := ok
  cases hc : qcl[ci]? with
  | none => rw [hc] at hq; cases hq
  | some q =>
    rw [hc] at hq
    exact J_callV h1 h2 h3 h4 h5 h6 hw hd hc (Option.some.inj hq) (by rw [lay_get hk, hs]; rfl) hdep hst hM hne hkk
theorem T_callSI {y' : MethodName} {cc' : ByteArray} {mL' d' idx : Nat} {rt' : Option FieldType} {As : List Value} {fc : Option (Int × Mem)} {K : Int → Mem → Option (ρ × Mem)} (ok : okT y' cc' mL' rt' As.length) (hw : Cond.methodLink y.cls idx y' ∈ qws) (hd : decode cc pc = .ok (.invokestatic idx, 3)) (hdep : d' < d) (hst : (st.map Value.category).sum ≤ 8) (hM : qM l G d' y' cc' mL' rt' As (lay μ) (lf eI fc)) (kk : ∀ (x : Int) (m : Mem), fc = some (x, m) → qJ l G y cc mL rt d (pc + 3) L (.int (iI x) :: st) (lay m) (lf em (K x m))) : qJ l G y cc mL rt d pc L (As.reverse ++ st) (lay μ) (lf em (bd fc K)) := by
  have hne : lf eI fc = none → lf em (bd fc K) = none := by
    intro h
    cases hf : fc with
    | none => rfl
    | some q => rw [hf] at h; cases h
  have hkk : ∀ r A1, lf eI fc = some (r, A1) → qJ l G y cc mL rt d (pc + 3) L (r.toList ++ st) A1 (lf em (bd fc K)) := by
    intro r A1 h
    cases hf : fc with
    | none => rw [hf] at h; cases h
    | some q =>
      obtain ⟨x, m⟩ := q
      rw [hf] at h
      cases h
      exact kk x m hf
  obtain ⟨h1, h3, h4, h5, h6⟩ := ok
  exact J_callS h1 h3 h4 h5 h6 hw hd hdep hst hM hne hkk
theorem T_callVL {y' : MethodName} {cc' : ByteArray} {mL' d' idx k ci : Nat} {rt' : Option FieldType} {As : List Value} {ks : List Nat} {fc : Option (Int × Mem)} {K : Int → Mem → Option (ρ × Mem)} (ok : okV y' cc' mL' rt' As.length) (hw : Cond.methodLink y.cls idx y' ∈ qws) (hd : decode cc pc = .ok (.invokevirtual idx, 3)) (hk : k < qN) (hs : shp k = .inl (ci, ks)) (hq : (qcl[ci]?).map (fun q => q.1) = some y'.cls) (hdep : d' < d) (hst : (st.map Value.category).sum ≤ 8) (hM : qM l G d' y' cc' mL' rt' (.ref k :: As) (lay μ) (lf eL fc)) (kk : ∀ (x : Int) (m : Mem), fc = some (x, m) → qJ l G y cc mL rt d (pc + 3) L (.long (iL x) :: st) (lay m) (lf em (K x m))) : qJ l G y cc mL rt d pc L (As.reverse ++ .ref k :: st) (lay μ) (lf em (bd fc K)) := by
  have hne : lf eL fc = none → lf em (bd fc K) = none := by
    intro h
    cases hf : fc with
    | none => rfl
    | some q => rw [hf] at h; cases h
  have hkk : ∀ r A1, lf eL fc = some (r, A1) → qJ l G y cc mL rt d (pc + 3) L (r.toList ++ st) A1 (lf em (bd fc K)) := by
    intro r A1 h
    cases hf : fc with
    | none => rw [hf] at h; cases h
    | some q =>
      obtain ⟨x, m⟩ := q
      rw [hf] at h
      cases h
      exact kk x m hf
  obtain ⟨h1, h2, h3, h4, h5, h6⟩ := ok
  cases hc : qcl[ci]? with
  | none => rw [hc] at hq; cases hq
  | some q =>
    rw [hc] at hq
    exact J_callV h1 h2 h3 h4 h5 h6 hw hd hc (Option.some.inj hq) (by rw [lay_get hk, hs]; rfl) hdep hst hM hne hkk
theorem T_callSL {y' : MethodName} {cc' : ByteArray} {mL' d' idx : Nat} {rt' : Option FieldType} {As : List Value} {fc : Option (Int × Mem)} {K : Int → Mem → Option (ρ × Mem)} (ok : okT y' cc' mL' rt' As.length) (hw : Cond.methodLink y.cls idx y' ∈ qws) (hd : decode cc pc = .ok (.invokestatic idx, 3)) (hdep : d' < d) (hst : (st.map Value.category).sum ≤ 8) (hM : qM l G d' y' cc' mL' rt' As (lay μ) (lf eL fc)) (kk : ∀ (x : Int) (m : Mem), fc = some (x, m) → qJ l G y cc mL rt d (pc + 3) L (.long (iL x) :: st) (lay m) (lf em (K x m))) : qJ l G y cc mL rt d pc L (As.reverse ++ st) (lay μ) (lf em (bd fc K)) := by
  have hne : lf eL fc = none → lf em (bd fc K) = none := by
    intro h
    cases hf : fc with
    | none => rfl
    | some q => rw [hf] at h; cases h
  have hkk : ∀ r A1, lf eL fc = some (r, A1) → qJ l G y cc mL rt d (pc + 3) L (r.toList ++ st) A1 (lf em (bd fc K)) := by
    intro r A1 h
    cases hf : fc with
    | none => rw [hf] at h; cases h
    | some q =>
      obtain ⟨x, m⟩ := q
      rw [hf] at h
      cases h
      exact kk x m hf
  obtain ⟨h1, h3, h4, h5, h6⟩ := ok
  exact J_callS h1 h3 h4 h5 h6 hw hd hdep hst hM hne hkk
theorem T_callVU {y' : MethodName} {cc' : ByteArray} {mL' d' idx k ci : Nat} {rt' : Option FieldType} {As : List Value} {ks : List Nat} {fc : Option (Unit × Mem)} {K : Unit → Mem → Option (ρ × Mem)} (ok : okV y' cc' mL' rt' As.length) (hw : Cond.methodLink y.cls idx y' ∈ qws) (hd : decode cc pc = .ok (.invokevirtual idx, 3)) (hk : k < qN) (hs : shp k = .inl (ci, ks)) (hq : (qcl[ci]?).map (fun q => q.1) = some y'.cls) (hdep : d' < d) (hst : (st.map Value.category).sum ≤ 8) (hM : qM l G d' y' cc' mL' rt' (.ref k :: As) (lay μ) (lf eU fc)) (kk : ∀ (x : Unit) (m : Mem), fc = some (x, m) → qJ l G y cc mL rt d (pc + 3) L st (lay m) (lf em (K x m))) : qJ l G y cc mL rt d pc L (As.reverse ++ .ref k :: st) (lay μ) (lf em (bd fc K)) := by
  have hne : lf eU fc = none → lf em (bd fc K) = none := by
    intro h
    cases hf : fc with
    | none => rfl
    | some q => rw [hf] at h; cases h
  have hkk : ∀ r A1, lf eU fc = some (r, A1) → qJ l G y cc mL rt d (pc + 3) L (r.toList ++ st) A1 (lf em (bd fc K)) := by
    intro r A1 h
    cases hf : fc with
    | none => rw [hf] at h; cases h
    | some q =>
      obtain ⟨x, m⟩ := q
      rw [hf] at h
      cases h
      exact kk x m hf
  obtain ⟨h1, h2, h3, h4, h5, h6⟩ := ok
  cases hc : qcl[ci]? with
  | none => rw [hc] at hq; cases hq
  | some q =>
    rw [hc] at hq
    exact J_callV h1 h2 h3 h4 h5 h6 hw hd hc (Option.some.inj hq) (by rw [lay_get hk, hs]; rfl) hdep hst hM hne hkk
theorem T_callSU {y' : MethodName} {cc' : ByteArray} {mL' d' idx : Nat} {rt' : Option FieldType} {As : List Value} {fc : Option (Unit × Mem)} {K : Unit → Mem → Option (ρ × Mem)} (ok : okT y' cc' mL' rt' As.length) (hw : Cond.methodLink y.cls idx y' ∈ qws) (hd : decode cc pc = .ok (.invokestatic idx, 3)) (hdep : d' < d) (hst : (st.map Value.category).sum ≤ 8) (hM : qM l G d' y' cc' mL' rt' As (lay μ) (lf eU fc)) (kk : ∀ (x : Unit) (m : Mem), fc = some (x, m) → qJ l G y cc mL rt d (pc + 3) L st (lay m) (lf em (K x m))) : qJ l G y cc mL rt d pc L (As.reverse ++ st) (lay μ) (lf em (bd fc K)) := by
  have hne : lf eU fc = none → lf em (bd fc K) = none := by
    intro h
    cases hf : fc with
    | none => rfl
    | some q => rw [hf] at h; cases h
  have hkk : ∀ r A1, lf eU fc = some (r, A1) → qJ l G y cc mL rt d (pc + 3) L (r.toList ++ st) A1 (lf em (bd fc K)) := by
    intro r A1 h
    cases hf : fc with
    | none => rw [hf] at h; cases h
    | some q =>
      obtain ⟨x, m⟩ := q
      rw [hf] at h
      cases h
      exact kk x m hf
  obtain ⟨h1, h3, h4, h5, h6⟩ := ok
  exact J_callS h1 h3 h4 h5 h6 hw hd hdep hst hM hne hkk
end JT
def oRow (t : Nat) : Prop := t = 38 ∨ t = 40 ∨ t = 42 ∨ t = 44 ∨ t = 46 ∨ t = 48
theorem oRow_o {t : Nat} (h : oRow t) : shp t = .inl (5, [t + 1 + 2, 0]) := by rcases h with rfl | rfl | rfl | rfl | rfl | rfl <;> rfl
theorem oRow_l {t : Nat} (h : oRow t) : t < qN := by rcases h with rfl | rfl | rfl | rfl | rfl | rfl <;> decide
theorem oRow_a1 {t : Nat} (h : oRow t) : shp (t + 1) = .inr (.inl (0, 40)) := by rcases h with rfl | rfl | rfl | rfl | rfl | rfl <;> rfl
theorem oRow_l1 {t : Nat} (h : oRow t) : t + 1 < qN := by rcases h with rfl | rfl | rfl | rfl | rfl | rfl <;> decide
def oText (t : Nat) : Prop := t = 50 ∨ t = 52 ∨ t = 54 ∨ t = 56
theorem oText_o {t : Nat} (h : oText t) : shp t = .inl (7, [t + 1 + 2, 0]) := by rcases h with rfl | rfl | rfl | rfl <;> rfl
theorem oText_l {t : Nat} (h : oText t) : t < qN := by rcases h with rfl | rfl | rfl | rfl <;> decide
theorem oText_a1 {t : Nat} (h : oText t) : shp (t + 1) = .inr (.inl (1, 60)) := by rcases h with rfl | rfl | rfl | rfl <;> rfl
theorem oText_l1 {t : Nat} (h : oText t) : t + 1 < qN := by rcases h with rfl | rfl | rfl | rfl <;> decide
def oDay (t : Nat) : Prop := t = 13 ∨ t = 20 ∨ t = 26 ∨ t = 28 ∨ t = 30 ∨ t = 33
theorem oDay_o {t : Nat} (h : oDay t) : shp t = .inl (1, [t + 1 + 2, 0, 0, 0, 0]) := by rcases h with rfl | rfl | rfl | rfl | rfl | rfl <;> rfl
theorem oDay_l {t : Nat} (h : oDay t) : t < qN := by rcases h with rfl | rfl | rfl | rfl | rfl | rfl <;> decide
theorem oDay_a1 {t : Nat} (h : oDay t) : shp (t + 1) = .inr (.inl (0, 16)) := by rcases h with rfl | rfl | rfl | rfl | rfl | rfl <;> rfl
theorem oDay_l1 {t : Nat} (h : oDay t) : t + 1 < qN := by rcases h with rfl | rfl | rfl | rfl | rfl | rfl <;> decide
def oDiary (t : Nat) : Prop := t = 15 ∨ t = 58 ∨ t = 61 ∨ t = 64
theorem oDiary_o {t : Nat} (h : oDiary t) : shp t = .inl (2, [t + 1 + 2, t + 2 + 2, 0]) := by rcases h with rfl | rfl | rfl | rfl <;> rfl
theorem oDiary_l {t : Nat} (h : oDiary t) : t < qN := by rcases h with rfl | rfl | rfl | rfl <;> decide
theorem oDiary_a1 {t : Nat} (h : oDiary t) : shp (t + 1) = .inr (.inl (0, 976)) := by rcases h with rfl | rfl | rfl | rfl <;> rfl
theorem oDiary_l1 {t : Nat} (h : oDiary t) : t + 1 < qN := by rcases h with rfl | rfl | rfl | rfl <;> decide
theorem oDiary_a2 {t : Nat} (h : oDiary t) : shp (t + 2) = .inr (.inl (0, 4)) := by rcases h with rfl | rfl | rfl | rfl <;> rfl
theorem oDiary_l2 {t : Nat} (h : oDiary t) : t + 2 < qN := by rcases h with rfl | rfl | rfl | rfl <;> decide
theorem oRow_e {a : Int} (h : 0 ≤ w32 a ∧ w32 a < 6) : oRow (38 + 2 * (w32 a).toNat) := by
  unfold oRow
  omega
theorem oText_e {a : Int} (h : 0 ≤ w32 a ∧ w32 a < 4) : oText (50 + 2 * (w32 a).toNat) := by
  unfold oText
  omega
theorem oDiary_e {a : Int} (h : 0 ≤ w32 a ∧ w32 a < 3) : oDiary (58 + 3 * (w32 a).toNat) := by
  unfold oDiary
  omega
theorem oDay_e {a : Int} (h : 0 ≤ w32 a ∧ w32 a < 3) : oDay (26 + 2 * (w32 a).toNat) := by
  unfold oDay
  omega
