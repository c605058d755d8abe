/-- the words that pass from a method to its callees -/
def TB : List Cond := lw_tbl.filter goodWord
theorem tb {w : Cond} {i : Nat} (h : lw_tbl[i]? = some w) (g : goodWord w = true) : w ∈ TB := List.mem_filter.mpr ⟨List.mem_of_getElem? h, g⟩
theorem tb_good {w : Cond} (h : w ∈ TB) : goodWord w = true := (List.mem_filter.mp h).2
/-! THE WORLD OF BOTH OBJECTS: 81 cells at addresses ad 0 .. ad 80, their shapes fixed, their ints in I, their longs in L. -/
abbrev mI : Type := Nat → Nat → Int32
abbrev mL : Type := Nat → Nat → Int64
/-- a shape: an array (its items' type, 0 ints | 1 longs | b + 2 references to the cells b .., its length), or an object (its number in the list below, its fields: (0, cell) a reference that stays, (1, _) an int, (2, _) a long) -/
abbrev mShape : Type := (FieldType × Nat × Nat) ⊕ (Nat × List (Nat × Nat))
abbrev classesX : List vw_C := [(RX1, TX1, 4), (RX2, TX2, 6), (RX3, TX3, 7), (RX4, TX4, 5), (RX5, TX5, 14), (RX6, TX6, 4), (RX7, TX7, 13), (RX8, TX8, 4), (RX9, TX9, 7), (RX10, TX10, 10), (RX11, TX11, 18)]
def SH0 : List mShape := [.inr (9, [(0, 1), (0, 16), (0, 31), (0, 39), (0, 48), (0, 55), (0, 60), (0, 63), (0, 65), (1, 0)]),
  .inr (6, [(0, 2), (0, 8), (0, 9), (0, 10), (0, 11), (0, 12), (0, 13), (0, 14), (0, 15), (1, 0), (1, 0), (1, 0), (1, 0)]),
  .inr (2, [(0, 3), (0, 4), (0, 5), (0, 6), (0, 7), (1, 0), (1, 0)]),
  .inl (.int, 0, 8),
  .inl (.int, 0, 32),
  .inl (.int, 0, 15),
  .inl (.int, 0, 15),
  .inl (.int, 0, 15),
  .inl (.int, 0, 4),
  .inl (.int, 0, 4),
  .inl (.int, 0, 6),
  .inl (.int, 0, 6),
  .inl (.int, 0, 6),
  .inl (.int, 0, 6),
  .inl (.int, 0, 6),
  .inl (.int, 0, 6),
  .inr (6, [(0, 17), (0, 23), (0, 24), (0, 25), (0, 26), (0, 27), (0, 28), (0, 29), (0, 30), (1, 0), (1, 0), (1, 0), (1, 0)]),
  .inr (2, [(0, 18), (0, 19), (0, 20), (0, 21), (0, 22), (1, 0), (1, 0)]),
  .inl (.int, 0, 8),
  .inl (.int, 0, 32),
  .inl (.int, 0, 15),
  .inl (.int, 0, 15),
  .inl (.int, 0, 15),
  .inl (.int, 0, 4),
  .inl (.int, 0, 4),
  .inl (.int, 0, 6),
  .inl (.int, 0, 6),
  .inl (.int, 0, 6),
  .inl (.int, 0, 6),
  .inl (.int, 0, 6),
  .inl (.int, 0, 6),
  .inr (7, [(0, 32), (0, 33), (1, 0), (1, 0)]),
  .inl (.char, 0, 120),
  .inr (2, [(0, 34), (0, 35), (0, 36), (0, 37), (0, 38), (1, 0), (1, 0)]),
  .inl (.int, 0, 8),
  .inl (.int, 0, 32),
  .inl (.int, 0, 15),
  .inl (.int, 0, 15),
  .inl (.int, 0, 15),
  .inr (5, [(0, 40), (0, 45), (0, 46), (0, 47)]),
  .inl (.array .long, 43, 4),
  .inl (.long, 1, 24),
  .inl (.long, 1, 24),
  .inl (.long, 1, 24),
  .inl (.long, 1, 24),
  .inl (.int, 0, 4),
  .inl (.int, 0, 4),
  .inl (.boolean, 0, 4),
  .inr (4, [(0, 1), (0, 49), (0, 50), (0, 51), (0, 52), (0, 53), (0, 54), (1, 0), (1, 0), (1, 0), (1, 0), (1, 0), (1, 0), (1, 0)]),
  .inl (.int, 0, 64),
  .inl (.int, 0, 64),
  .inl (.int, 0, 8),
  .inl (.int, 0, 8),
  .inl (.int, 0, 8),
  .inl (.int, 0, 8),
  .inr (8, [(0, 1), (0, 48), (0, 56), (0, 57), (0, 58), (0, 59), (1, 0)]),
  .inl (.int, 0, 8),
  .inl (.int, 0, 8),
  .inl (.int, 0, 8),
  .inl (.int, 0, 8),
  .inr (1, [(0, 1), (0, 48), (0, 61), (0, 62), (1, 0), (1, 0)]),
  .inl (.int, 0, 81),
  .inl (.int, 0, 81),
  .inr (3, [(0, 1), (0, 48), (0, 64), (2, 0), (2, 0)]),
  .inl (.int, 0, 256),
  .inr (0, [(0, 66), (1, 0), (1, 0), (1, 0)]),
  .inl (.int, 0, 4),
  .inr (10, [(0, 68), (0, 69), (1, 0), (0, 70), (1, 0), (0, 71), (0, 72), (0, 73), (1, 0), (0, 74), (0, 75), (0, 76), (0, 77), (0, 78), (0, 79), (2, 0), (2, 0), (0, 80)]),
  .inl (.int, 0, 135),
  .inl (.int, 0, 135),
  .inl (.int, 0, 120),
  .inl (.int, 0, 4),
  .inl (.int, 0, 4),
  .inl (.long, 1, 96),
  .inl (.int, 0, 135),
  .inl (.int, 0, 64),
  .inl (.int, 0, 9),
  .inl (.int, 0, 9),
  .inl (.int, 0, 100),
  .inl (.int, 0, 100),
  .inl (.int, 0, 4)]
theorem SH0_len : SH0.length = 81 := by decide +kernel
/-- the shape of a cell by its number -/
def sh (k : Nat) : Option mShape := SH0[k]?
/-- an address by its number -/
def rn (ad : Nat → Nat) (v : Value) : Value := match v with
  | .ref k => .ref (ad k)
  | w => w
theorem rn_cat (ad : Nat → Nat) (v : Value) : (rn ad v).category = v.category := by cases v <;> rfl
def fldOf (ad : Nat → Nat) (Ik : Nat → Int32) (Lk : Nat → Int64) (j : Nat) (f : Nat × Nat) : Value := match f with
  | (0, r) => .ref (ad r)
  | (1, _) => .int (Ik j)
  | (_, _) => .long (Lk j)
def cellOf (ad : Nat → Nat) (ca : FieldType → ClassId) (Ik : Nat → Int32) (Lk : Nat → Int64) (s : mShape) : va_E := match s with
  | .inl (ty, 0, n) => .inl (ca ty, n, .inl Ik)
  | .inl (ty, 1, n) => .inl (ca ty, n, .inr (.inl Lk))
  | .inl (ty, b + 2, n) => .inl (ca ty, n, .inr (.inr (.inr (.inr (fun i => if i < n then some (ad (b + i)) else none)))))
  | .inr (ci, fs) => .inr (ci, fs.mapIdx (fldOf ad Ik Lk))
def wld (ad : Nat → Nat) (ca : FieldType → ClassId) (I : mI) (L : mL) : va_W := SH0.mapIdx (fun k s => (ad k, cellOf ad ca (I k) (L k) s))
theorem wld_get {ad : Nat → Nat} {ca : FieldType → ClassId} {I : mI} {L : mL} {k : Nat} {s : mShape} (h : sh k = some s) : (wld ad ca I L)[k]? = some (ad k, cellOf ad ca (I k) (L k) s) := by
  unfold sh at h
  simp [wld, List.getElem?_mapIdx, h]
theorem sh_lt {k : Nat} {s : mShape} (h : sh k = some s) : k < 81 := by
  unfold sh at h
  have := (List.getElem?_eq_some_iff.mp h).1
  rw [SH0_len] at this
  exact this
theorem wld_at {ad : Nat → Nat} {ca : FieldType → ClassId} {I : mI} {L : mL} {k : Nat} {q : Nat × va_E} (h : (wld ad ca I L)[k]? = some q) : ∃ s, sh k = some s ∧ q = (ad k, cellOf ad ca (I k) (L k) s) := by
  unfold wld at h
  rw [List.getElem?_mapIdx] at h
  unfold sh
  cases e : SH0[k]? with
  | none => rw [e] at h; cases h
  | some s => rw [e] at h; exact ⟨s, rfl, (Option.some.inj h).symm⟩
/-- a row of ints, of longs put -/
def pI (I : mI) (k : Nat) (f : Nat → Int32) : mI := fun a => if a = k then f else I a
def pL (L : mL) (k : Nat) (f : Nat → Int64) : mL := fun a => if a = k then f else L a
def uI (I : mI) (k j : Nat) (x : Int32) : mI := pI I k (upd (I k) j x)
def uL (L : mL) (k j : Nat) (x : Int64) : mL := pL L k (vp_updL (L k) j x)
theorem wld_setI {ad : Nat → Nat} {ca : FieldType → ClassId} {I : mI} {L : mL} {k : Nat} {s : mShape} {e : va_E} {f : Nat → Int32} (h : sh k = some s) (he : e = cellOf ad ca f (L k) s) : (wld ad ca I L).set k (ad k, e) = wld ad ca (pI I k f) L := by
  apply List.ext_getElem?
  intro i
  unfold sh at h
  rw [List.getElem?_set]
  unfold wld
  by_cases hi : k = i
  · subst hi
    obtain ⟨hl, hs⟩ := List.getElem?_eq_some_iff.mp h
    simp [List.getElem?_mapIdx, hl, he, pI, hs]
  · rw [if_neg hi]
    simp only [List.getElem?_mapIdx, pI]
    rw [if_neg (fun q => hi q.symm)]
theorem wld_setL {ad : Nat → Nat} {ca : FieldType → ClassId} {I : mI} {L : mL} {k : Nat} {s : mShape} {e : va_E} {f : Nat → Int64} (h : sh k = some s) (he : e = cellOf ad ca (I k) f s) : (wld ad ca I L).set k (ad k, e) = wld ad ca I (pL L k f) := by
  apply List.ext_getElem?
  intro i
  unfold sh at h
  rw [List.getElem?_set]
  unfold wld
  by_cases hi : k = i
  · subst hi
    obtain ⟨hl, hs⟩ := List.getElem?_eq_some_iff.mp h
    simp [List.getElem?_mapIdx, hl, he, pL, hs]
  · rw [if_neg hi]
    simp only [List.getElem?_mapIdx, pL]
    rw [if_neg (fun q => hi q.symm)]
/-- the cells that a method may change -/
def AA (ad : Nat → Nat) : Nat → Prop := fun q => ∃ k, k < 81 ∧ q = ad k
theorem wld_D {ad : Nat → Nat} {ca : FieldType → ClassId} {I : mI} {L : mL} (hi : ∀ i j, i < 81 → j < 81 → ad i = ad j → i = j) : va_D (AA ad) (wld ad ca I L) := by
  refine ⟨fun i j p q hp hq hpq => ?_, fun k q hq => ?_⟩
  · obtain ⟨s, hs, rfl⟩ := wld_at hp
    obtain ⟨s', hs', rfl⟩ := wld_at hq
    exact hi i j (sh_lt hs) (sh_lt hs') hpq
  · obtain ⟨s, hs, rfl⟩ := wld_at hq
    exact ⟨k, sh_lt hs, rfl⟩
abbrev tyl (ca : FieldType → ClassId) : List (ClassId × FieldType) := [(ca .int, .int), (ca .long, .long), (ca .char, .char), (ca .boolean, .boolean), (ca (.array .long), .array .long)]
def rmm (d : Nat) : Room := { frames := d, cells := 0, slots := 0, locals := 36 * d }
/-- a method: its own class's name, its code, how many locals, what it answers -/
abbrev mM : Type := String × ByteArray × Nat × Option FieldType
/-- the constants outside the world: ORDERS at ad 81; the text "lhsa" at ad 82, its bytes at ad 83 -/
def ordT : Nat → Value := fun j => .long (([1, 1, 2, 6, 24, 120, 720, 5040, 40320] : List Int64).getD j 0)
def kinL : List Int32 := [108, 104, 115, 97]
def kinT : Nat → Value := fun j => .int (kinL.getD j 0)
def Kons (ad : Nat → Nat) (s : State) (H : Heap) : Prop := va_Z RX4 "ORDERS" "[J" (.ref (ad 81)) (AA ad) s H ∧ va_T .long (ad 81) 9 ordT (AA ad) s H ∧ va_Z RJ0 "COMPACT_STRINGS" "Z" (.int 1) (AA ad) s H ∧ va_O RJ0 (ad 82) (AA ad) s H ∧ va_OF RJ0 "value" "[B" (.ref (ad 83)) (ad 82) (AA ad) s H ∧ va_OF RJ0 "coder" "B" (.int 0) (ad 82) (AA ad) s H ∧ va_T .byte (ad 83) 4 kinT (AA ad) s H ∧ vk_R RX8 49 "lhsa" (ad 82) s
theorem Kons.warm {ad : Nat → Nat} {u U : State} {H : Heap} (hW : u.WarmedH U.vm) (h : Kons ad u H) : Kons ad U H := ⟨h.1.moved hW.alike, h.2.1.moved hW.alike, h.2.2.1.moved hW.alike, h.2.2.2.1.moved hW.alike, h.2.2.2.2.1.moved hW.alike, h.2.2.2.2.2.1.moved hW.alike, h.2.2.2.2.2.2.1.moved hW.alike, h.2.2.2.2.2.2.2.warm hW⟩
theorem Kons.same {ad : Nat → Nat} {u U : State} {H : Heap} (hv : U.vm = u.vm) (h : Kons ad u H) : Kons ad U H := by
  have ha : u.vm.Alike U.vm := by rw [hv]; exact Vm.Alike.refl u.vm
  exact ⟨h.1.moved ha, h.2.1.moved ha, h.2.2.1.moved ha, h.2.2.2.1.moved ha, h.2.2.2.2.1.moved ha, h.2.2.2.2.2.1.moved ha, h.2.2.2.2.2.2.1.moved ha, h.2.2.2.2.2.2.2.same hv⟩
theorem Kons.kept {ad : Nat → Nat} {s : State} {H H1 : Heap} (h : Kons ad s H) (hq : ∀ a : Nat, a < H.size → ¬ AA ad a → H1[a]? = H[a]?) : Kons ad s H1 := ⟨h.1.kept hq, h.2.1.kept hq, h.2.2.1.kept hq, h.2.2.2.1.kept hq, h.2.2.2.2.1.kept hq, h.2.2.2.2.2.1.kept hq, h.2.2.2.2.2.2.1.kept hq, h.2.2.2.2.2.2.2⟩
/-- what a method's walk stands on -/
def Cx (M : mM) (p : Program) (s : State) (m : MethodId) (args : Array Value) (meth : Method) (c : Code) (D : va_G) (ad : Nat → Nat) (ca : FieldType → ClassId) : Prop :=
  p.tables.exec = Jvm.exec ∧ c.code = M.2.1 ∧ meth.sig.returnType = M.2.2.2 ∧ c.maxLocals = M.2.2.1 ∧ s.vm.findClass M.1 = some m.cls ∧ meth.locks = false ∧ (∀ w ∈ TB, w.before args s = true) ∧ va_K D classesX (tyl ca) s ∧ (∀ i j, i < 81 → j < 81 → ad i = ad j → i = j) ∧ Kons ad s s.heap
/-- the locals: what is known of each slot -/
def LH (ad : Nat → Nat) (ls : Array Slot) (nL : Nat) (lc : List (Option Value)) : Prop := ls.size = nL ∧ lv_wf ls ∧ ∀ (i : Nat) (v : Value), lc[i]? = some (some v) → ls[i]? = some (.val (rn ad v))
/-- a method's end -/
def QQ (D : va_G) (ad : Nat → Nat) (ca : FieldType → ClassId) (Q : Option Value → mI → mL → Prop) : Array Value → State → Outcome → State → Prop := fun _ st oc t =>
  (∃ (v : Option Value) (I : mI) (L : mL), oc = .returned (v.map (rn ad)) ∧ Q v I L ∧ va_P D classesX (wld ad ca I L) t.heap) ∧ va_F (AA ad) st t
/-- THE JUDGEMENT: method M, with room for d calls one in another, at pc with the locals lc, the stack st, the ints I and longs L of the world, ends in an answer and a world with Q -/
def RR (M : mM) (d : Nat) (pc : Nat) (lc : List (Option Value)) (st : List Value) (I : mI) (L : mL) (Q : Option Value → mI → mL → Prop) : Prop :=
  ∀ (p : Program) (l : Launch) (e : Env) (s : State) (m : MethodId) (args : Array Value) (below : List Frame) (meth : Method) (c : Code) (D : va_G) (ad : Nat → Nat) (ca : FieldType → ClassId) (H : Heap) (locs : List Loc) (ls : Array Slot),
    Cx M p s m args meth c D ad ca → va_P D classesX (wld ad ca I L) H → va_S (AA ad) s.heap H locs → LH ad ls M.2.2.1 lc →
    W p l e (rmm d) s m args below meth c H locs 0 0 (MQ below (QQ D ad ca Q) args s 0 0 (AA ad)) (F0 m pc ls (st.map (rn ad)))
/-- the locals as the kit's rows take them -/
def asl (ad : Nat → Nat) (lc : List (Option Value)) : List (Nat × Value) := (List.range lc.length).filterMap (fun i => match lc[i]? with
  | some (some v) => some (i, rn ad v)
  | _ => none)
theorem asl_mem {ad : Nat → Nat} {lc : List (Option Value)} {i : Nat} {w : Value} : (i, w) ∈ asl ad lc ↔ ∃ v, lc[i]? = some (some v) ∧ w = rn ad v := by
  unfold asl
  rw [List.mem_filterMap]
  constructor
  · rintro ⟨a, -, h⟩
    split at h
    · rename_i v hv
      cases h
      exact ⟨v, hv, rfl⟩
    · cases h
  · rintro ⟨v, hv, rfl⟩
    refine ⟨i, List.mem_range.mpr (List.getElem?_eq_some_iff.mp hv).1, ?_⟩
    rw [hv]
theorem LH.has {ad : Nat → Nat} {ls : Array Slot} {nL : Nat} {lc : List (Option Value)} (h : LH ad ls nL lc) : lv_has ls nL (asl ad lc) := by
  refine ⟨h.1, h.2.1, fun q hq => ?_⟩
  obtain ⟨v, hv, e⟩ := asl_mem.mp (show (q.1, q.2) ∈ asl ad lc from hq)
  rw [e]
  exact h.2.2 _ _ hv
/-- slot i may be stored: no long begins just ahead of it -/
def okS (lc : List (Option Value)) (i : Nat) : Bool := match i with
  | 0 => true
  | k + 1 => match lc[k]? with
    | some (some v) => v.category == 1
    | _ => true
theorem okS_spec {lc : List (Option Value)} {i j : Nat} {v : Value} (h : okS lc i = true) (hj : lc[j]? = some (some v)) (e : j + 1 = i) : v.category = 1 := by
  subst e
  simp only [okS, hj] at h
  exact beq_iff_eq.mp h
theorem LH.store1 {ad : Nat → Nat} {ls : Array Slot} {nL i : Nat} {lc : List (Option Value)} {v : Value} (hs : okS lc i = true) (h : lv_has ls nL ((i, rn ad v) :: (asl ad lc).filter (fun q => !(q.1 == i) && !(q.1 + 1 == i && q.2.category == 2)))) : LH ad ls nL (lc.set i (some v)) := by
  refine ⟨h.1, h.2.1, fun j w hj => ?_⟩
  by_cases e : i = j
  · subst e
    rw [List.getElem?_set] at hj
    rw [if_pos rfl] at hj
    split at hj
    · cases hj
      exact h.2.2 (i, rn ad v) List.mem_cons_self
    · cases hj
  · rw [List.getElem?_set, if_neg e] at hj
    refine h.2.2 (j, rn ad w) (List.mem_cons_of_mem _ (List.mem_filter.mpr ⟨asl_mem.mpr ⟨w, hj, rfl⟩, ?_⟩))
    have e2 : ¬ j = i := fun q => e q.symm
    by_cases e3 : j + 1 = i
    · simp [e2, e3, rn_cat, okS_spec hs hj e3]
    · simp [e2, e3]
theorem LH.store2 {ad : Nat → Nat} {ls : Array Slot} {nL i : Nat} {lc : List (Option Value)} {v : Value} (hs : okS lc i = true) (h : lv_has ls nL ((i, rn ad v) :: (asl ad lc).filter (fun q => !(q.1 == i) && (!(q.1 == i + 1) && !(q.1 + 1 == i && q.2.category == 2))))) : LH ad ls nL ((lc.set i (some v)).set (i + 1) none) := by
  refine ⟨h.1, h.2.1, fun j w hj => ?_⟩
  by_cases e0 : i + 1 = j
  · subst e0
    rw [List.getElem?_set] at hj
    rw [if_pos rfl] at hj
    split at hj
    · cases hj
    · cases hj
  rw [List.getElem?_set, if_neg e0] at hj
  by_cases e : i = j
  · subst e
    rw [List.getElem?_set] at hj
    rw [if_pos rfl] at hj
    split at hj
    · cases hj
      exact h.2.2 (i, rn ad v) List.mem_cons_self
    · cases hj
  · rw [List.getElem?_set, if_neg e] at hj
    refine h.2.2 (j, rn ad w) (List.mem_cons_of_mem _ (List.mem_filter.mpr ⟨asl_mem.mpr ⟨w, hj, rfl⟩, ?_⟩))
    have e2 : ¬ j = i := fun q => e q.symm
    have e4 : ¬ j = i + 1 := fun q => e0 q.symm
    by_cases e3 : j + 1 = i
    · simp [e2, e3, e4, rn_cat, okS_spec hs hj e3]
    · simp [e2, e3, e4]
