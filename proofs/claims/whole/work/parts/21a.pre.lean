/-! what the constructors' rows stand on -/
/-- the tables know long[] and long[][] -/
def AOA (U : State) : Prop := ∃ (comp cA : ClassId) (kA : Class), U.vm.findClass "[J" = some comp ∧ U.vm.classes[cA]? = some kA ∧ kA.kind = .array comp (.array .long) ∧ U.vm.findClass "[[J" = some cA
theorem AOA.moved {u U : State} (hvm : u.vm.Alike U.vm) (h : AOA u) : AOA U := by
  obtain ⟨comp, cA, kA, h1, h2, h3, h4⟩ := h
  obtain ⟨k', hk', he⟩ := hvm.2.2 _ _ h2
  exact ⟨comp, cA, k', by rw [hvm.findClass]; exact h1, hk', by rw [he]; exact h3, by rw [hvm.findClass]; exact h4⟩
/-- what the constructors take beside the words: long[][], and the private constructors' links -/
def NX (U : State) : Prop := AOA U ∧ va_Nw (.methodLinkNest RX10 9 yX7_init "ParishPull") U ∧ va_Nw (.methodLinkNest RX7 11 yX3_init "ParishPull") U ∧ va_Nw (.methodLinkNest RX10 21 yX8_init "ParishPull") U ∧ va_Nw (.methodLinkNest RX8 17 yX3_init "ParishPull") U ∧ va_Nw (.methodLinkNest RX10 28 yX6_init "ParishPull") U ∧ va_Nw (.methodLinkNest RX10 67 yX1_init "ParishPull") U
theorem NX.warm {s U : State} (hW : s.WarmedH U.vm) (h : NX s) : NX U := ⟨h.1.moved hW.alike, va_Nw.warmM hW h.2.1, va_Nw.warmM hW h.2.2.1, va_Nw.warmM hW h.2.2.2.1, va_Nw.warmM hW h.2.2.2.2.1, va_Nw.warmM hW h.2.2.2.2.2.1, va_Nw.warmM hW h.2.2.2.2.2.2⟩
theorem NX.same {u U : State} (hv : U.vm = u.vm) (h : NX u) : NX U := ⟨h.1.moved (by rw [hv]; exact Vm.Alike.refl u.vm), va_Nw.same rfl hv.symm h.2.1, va_Nw.same rfl hv.symm h.2.2.1, va_Nw.same rfl hv.symm h.2.2.2.1, va_Nw.same rfl hv.symm h.2.2.2.2.1, va_Nw.same rfl hv.symm h.2.2.2.2.2.1, va_Nw.same rfl hv.symm h.2.2.2.2.2.2⟩
theorem good_of_ctor {y : MethodName} {M : mM} {n : Nat} {c0 : Cond} (h : MI y M n) : ∀ w ∈ wsM y M, w ∈ c0 :: TB ∧ ((w.onTables && w.keeps) = true ∨ ∃ ty, w = .arrayClass ty) := fun w hw => ⟨List.mem_cons_of_mem _ (wsM_good h.2.2.1 w hw).1, (wsM_good h.2.2.1 w hw).2⟩
/-! an array of arrays of numbers -/
/-- one round of the making: a row more, and its reference laid down -/
def mnStep (inner : Cell) (h i : Nat) (x : State × Cell) : State × Cell := ((x.1.pushCell inner).setCell h (x.2.setSlot i (.ref x.1.heap.size)), x.2.setSlot i (.ref x.1.heap.size))
def mnSt (inner : Cell) (h : Nat) (x : State × Cell) : Nat → State × Cell
  | 0 => x
  | i + 1 => mnStep inner h i (mnSt inner h x i)
theorem mnSt_setTop (inner : Cell) (h : Nat) (t : State) (c : Cell) (g : JFrame) : ∀ i, mnSt inner h (t.setTop g, c) i = ((mnSt inner h (t, c) i).1.setTop g, (mnSt inner h (t, c) i).2)
  | 0 => rfl
  | i + 1 => by
    rw [mnSt, mnSt_setTop inner h t c g i]
    rfl
/-- what the rounds leave -/
def MnF (t : State) (cA comp : ClassId) (i : Nat) (y : State × Cell) : Prop := y.1.vm = t.vm ∧ y.1.topJava? = t.topJava? ∧ y.1.heap.size = t.heap.size + 1 + i ∧ y.1.slotsUsed = t.slotsUsed + 4 + 24 * i ∧ y.2 = arrV cA 4 (fun j => if j < i then .ref (t.heap.size + 1 + j) else .null) ∧ y.1.heap[t.heap.size]? = some y.2 ∧ (∀ j, j < i → y.1.heap[t.heap.size + 1 + j]? = some (arrV comp 24 (fun _ => .long 0))) ∧ ∀ q, q < t.heap.size → y.1.heap[q]? = t.heap[q]?
theorem MnF.vm {t : State} {cA comp : ClassId} {i : Nat} {y : State × Cell} (h : MnF t cA comp i y) : y.1.vm = t.vm := h.1
theorem MnF.top {t : State} {cA comp : ClassId} {i : Nat} {y : State × Cell} (h : MnF t cA comp i y) : y.1.topJava? = t.topJava? := h.2.1
theorem MnF.size {t : State} {cA comp : ClassId} {i : Nat} {y : State × Cell} (h : MnF t cA comp i y) : y.1.heap.size = t.heap.size + 1 + i := h.2.2.1
theorem MnF.used {t : State} {cA comp : ClassId} {i : Nat} {y : State × Cell} (h : MnF t cA comp i y) : y.1.slotsUsed = t.slotsUsed + 4 + 24 * i := h.2.2.2.1
theorem MnF.cell {t : State} {cA comp : ClassId} {i : Nat} {y : State × Cell} (h : MnF t cA comp i y) : y.2 = arrV cA 4 (fun j => if j < i then .ref (t.heap.size + 1 + j) else .null) := h.2.2.2.2.1
theorem MnF.here {t : State} {cA comp : ClassId} {i : Nat} {y : State × Cell} (h : MnF t cA comp i y) : y.1.heap[t.heap.size]? = some y.2 := h.2.2.2.2.2.1
theorem MnF.rows {t : State} {cA comp : ClassId} {i : Nat} {y : State × Cell} (h : MnF t cA comp i y) : ∀ j, j < i → y.1.heap[t.heap.size + 1 + j]? = some (arrV comp 24 (fun _ => .long 0)) := h.2.2.2.2.2.2.1
theorem MnF.old {t : State} {cA comp : ClassId} {i : Nat} {y : State × Cell} (h : MnF t cA comp i y) : ∀ q, q < t.heap.size → y.1.heap[q]? = t.heap[q]? := h.2.2.2.2.2.2.2
theorem mnF (t : State) (cA comp : ClassId) : ∀ i, MnF t cA comp i (mnSt (arrV comp 24 (fun _ => .long 0)) t.heap.size (t.pushCell (arrV cA 4 (fun _ => .null)), arrV cA 4 (fun _ => .null)) i)
  | 0 => ⟨rfl, rfl, by simp [mnSt], by simp [mnSt, arrV_size], by simp [mnSt], by simp [mnSt], fun j hj => absurd hj (Nat.not_lt_zero _), fun q hq => by simp only [mnSt]; exact State.heap_pushCell_of_lt _ _ hq⟩
  | i + 1 => by
    have F := mnF t cA comp i
    generalize hy : mnSt (arrV comp 24 (fun _ => .long 0)) t.heap.size (t.pushCell (arrV cA 4 (fun _ => .null)), arrV cA 4 (fun _ => .null)) i = y at F
    rw [mnSt, hy]
    have hc : y.2.setSlot i (.ref y.1.heap.size) = arrV cA 4 (fun j => if j < i + 1 then .ref (t.heap.size + 1 + j) else .null) := by
      rw [F.cell, arrV_store, F.size]
      congr 1
      funext j
      by_cases h1 : j = i
      · subst h1; simp [updV]
      · by_cases h2 : j < i
        · simp [updV, h1, h2, show j < i + 1 by omega]
        · simp [updV, h1, h2, show ¬ j < i + 1 by omega]
    have hlt : t.heap.size < y.1.heap.size := by rw [F.size]; omega
    refine ⟨F.vm, F.top, ?_, ?_, hc, ?_, fun j hj => ?_, fun q hq => ?_⟩
    · simp [mnStep, F.size]; omega
    · simp [mnStep, F.used, arrV_size]; omega
    · exact State.heap_setCell_self (c := y.2) ((State.heap_pushCell_of_lt _ _ hlt).trans F.here)
    · refine (State.heap_setCell_other (show t.heap.size ≠ t.heap.size + 1 + j by omega)).trans ?_
      by_cases h1 : j = i
      · subst h1
        rw [← F.size]
        exact State.heap_pushCell_size _ _
      · exact (State.heap_pushCell_of_lt _ _ (show t.heap.size + 1 + j < y.1.heap.size by rw [F.size]; omega)).trans (F.rows j (by omega))
    · exact (State.heap_setCell_other (show t.heap.size ≠ q by omega)).trans ((State.heap_pushCell_of_lt _ _ (show q < y.1.heap.size by omega)).trans (F.old q hq))
section MN
variable {E : CtlPost} {e : Env} {d : Bool} {acts : List Action} {t : State} {cA comp cc : ClassId} {kA kC : Class}
theorem mn_make1 {Q : Addr → Pre} (hk : t.vm.classes[comp]? = some kC) (hkind : kC.kind = .array cc .long) (hlimit : ¬ 24 > e.platform.arrayLengthLimit) (hheap : ¬ 24 * componentBytes .long > e.platform.maxHeapBytes) (hcells : t.heap.size < e.platform.maxCells) (hslots : t.slotsUsed + 24 ≤ e.platform.maxSlots)
    (hq : ∀ acts', Q t.heap.size d acts' (t.pushCell (arrV comp 24 (fun _ => .long 0)))) : wp (Op.multianewarray.make comp [24]) Q E e d acts t := by
  rw [Op.multianewarray.make]
  simp only [wp_bind', W.ite, show ¬ (24 : Int32) < 0 by decide, if_false, wp_pure', W.theClass, hk, Option.some.injEq, exists_eq_left', hkind]
  refine W.newArray_of hk hkind hlimit hheap hcells hslots rfl fun acts' => ?_
  have := hq acts'
  rw [← arrV_new] at this
  exact this
theorem mn_make {Q : Addr → Pre} (hkA : t.vm.classes[cA]? = some kA) (hkindA : kA.kind = .array comp (.array .long)) (hk : t.vm.classes[comp]? = some kC) (hkind : kC.kind = .array cc .long) (hlimit : ¬ 24 > e.platform.arrayLengthLimit) (hheap : ¬ 24 * componentBytes .long > e.platform.maxHeapBytes) (hheap4 : ¬ 4 * componentBytes (.array .long) > e.platform.maxHeapBytes) (hcells : t.heap.size + 5 ≤ e.platform.maxCells) (hslots : t.slotsUsed + 100 ≤ e.platform.maxSlots)
    (hq : ∀ d' acts', Q t.heap.size d' acts' (mnSt (arrV comp 24 (fun _ => .long 0)) t.heap.size (t.pushCell (arrV cA 4 (fun _ => .null)), arrV cA 4 (fun _ => .null)) 4).1) : wp (Op.multianewarray.make cA [4, 24]) Q E e d acts t := by
  rw [Op.multianewarray.make]
  simp only [wp_bind', W.ite, show ¬ (4 : Int32) < 0 by decide, if_false, wp_pure', W.theClass, hkA, Option.some.injEq, exists_eq_left', hkindA]
  refine W.newArray_of hkA hkindA (by show ¬ 4 > _; omega) hheap4 (by omega) (by show _ + 4 ≤ _; omega) rfl fun acts' => ?_
  rw [show (Int32.toNatClampNeg 4) = 4 from rfl, arrV_new]
  simp only [show ((4 : Int32) == 0) = false by decide, Bool.false_eq_true, if_false, wp_pure']
  rw [wp_bind', Std.Legacy.Range.forIn_eq_forIn_range']
  refine wp_forIn_inv (fun rest s' => ∃ i, i ≤ 4 ∧ rest = List.range' i (4 - i) ∧ s' = (mnSt (arrV comp 24 (fun _ => .long 0)) t.heap.size (t.pushCell (arrV cA 4 (fun _ => .null)), arrV cA 4 (fun _ => .null)) i).1) _ _ ?_ ?_ ?_
  · exact ⟨0, by omega, rfl, rfl⟩
  · rintro x rest s' d' acts' Q' ⟨i, hi, hr, rfl⟩ hQ
    have hi4 : i < 4 := by
      rcases Nat.lt_or_ge i 4 with h | h
      · exact h
      · rw [show 4 - i = 0 by omega] at hr; cases hr
    rw [show 4 - i = (4 - (i + 1)) + 1 by omega, List.range'_succ] at hr
    obtain ⟨rfl, rfl⟩ := List.cons.inj hr
    have F := mnF t cA comp x
    generalize hy : mnSt (arrV comp 24 (fun _ => .long 0)) t.heap.size (t.pushCell (arrV cA 4 (fun _ => .null)), arrV cA 4 (fun _ => .null)) x = y at F ⊢
    simp only [wp_bind']
    refine mn_make1 (by rw [F.vm]; exact hk) hkind hlimit hheap (by rw [F.size]; omega) (by rw [F.used]; omega) fun acts' => ?_
    rw [wp_bind', W.writeLoc]
    refine ⟨y.2, (State.heap_pushCell_of_lt _ _ (show t.heap.size < y.1.heap.size by rw [F.size]; omega)).trans F.here, ?_, ?_, ?_, ?_⟩
    · rw [F.cell]; exact fun h => by cases h
    · rw [F.cell, arrV_size]; exact hi4
    · rw [F.cell]
      have hk' : y.1.vm.classes[cA]? = some kA := by rw [F.vm]; exact hkA
      simp [State.fitsSlot, State.slotType?, arrV, hk', hkindA, fits]
    · simp only [wp_pure']
      refine hQ _ _ _ ⟨x + 1, by omega, by simp, ?_⟩
      rw [mnSt, hy]
      rfl
  · rintro s' d' acts' ⟨i, hi, hr, rfl⟩
    have h4 : i = 4 := by
      rcases Nat.lt_or_ge i 4 with h | h
      · rw [show 4 - i = (4 - (i + 1)) + 1 by omega, List.range'_succ] at hr; cases hr
      · omega
    subst h4
    rw [wp_pure']
    exact hq _ _
end MN
theorem va_D.fresh {A : Nat → Prop} {ws w2 : va_W} {n : Nat} (hD : va_D A ws) (hlt : ∀ (k : Nat) (q : Nat × va_E), ws[k]? = some q → q.1 < n) (h2 : ∀ (k : Nat) (q : Nat × va_E), w2[k]? = some q → q.1 = n + k) (hA : ∀ k, A (n + k)) : va_D A (ws ++ w2) := by
  have key : ∀ (k : Nat) (q : Nat × va_E), (ws ++ w2)[k]? = some q → (ws[k]? = some q ∧ q.1 < n ∧ k < ws.length) ∨ (ws.length ≤ k ∧ q.1 = n + (k - ws.length)) := by
    intro k q hk
    by_cases hl : k < ws.length
    · rw [List.getElem?_append_left hl] at hk
      exact Or.inl ⟨hk, hlt k q hk, hl⟩
    · rw [List.getElem?_append_right (by omega)] at hk
      exact Or.inr ⟨by omega, h2 _ q hk⟩
  refine ⟨fun i j x y hx hy hxy => ?_, fun k q hk => ?_⟩
  · rcases key i x hx with ⟨a1, a2, a3⟩ | ⟨a1, a2⟩ <;> rcases key j y hy with ⟨b1, b2, b3⟩ | ⟨b1, b2⟩
    · exact hD.1 i j x y a1 b1 hxy
    · omega
    · omega
    · omega
  · rcases key k q hk with ⟨a1, a2, a3⟩ | ⟨a1, a2⟩
    · exact hD.2 k q a1
    · rw [a2]; exact hA _
section CRows
variable {p : Program} {l : Launch} {e : Env} {R : Room} {s : State} {m : MethodId} {args : Array Value} {below : List Frame} {meth : Method} {c : Code} {H : Heap} {locs : List Loc} {cells slots : Nat} {Q : State → Prop}
variable {cc : ByteArray} {pc : Nat} {ls : Array Slot} {rest : List Value} {D : va_G} {A : Nat → Prop} {ca : FieldType → ClassId} {ws : va_W} {H0 : Heap}
/-- a new array of numbers: its class is the one that the tables name -/
theorem va_newaC (hexec : p.tables.exec = Jvm.exec) (hb : c.code = cc) {atype : ArrayType} (harr : (Cond.arrayClass (newarray.typeOf atype)).before args s = true) {ty : FieldType} (hty : newarray.typeOf atype = ty) (t0 : Nat) (ht0 : (tyl ca)[t0]? = some (ca ty, ty)) (hK : va_K D classesX (tyl ca) s) (hP : va_P D classesX ws H) (hD : va_D A ws) (hS : va_S A H0 H locs) (hA : ∀ q, H0.size ≤ q → A q)
    {n : Int32} {N' : Nat} {z : ((Nat → Int32) ⊕ (Nat → Int64) ⊕ (Nat → UInt32) ⊕ (Nat → UInt64) ⊕ (Nat → Option Nat))} (ha : ∀ cA : ClassId, vp_cell cA (N', z) = arrV cA N' (fun _ => defaultValue ty)) (hn : ¬ n < 0) (hN : n.toNatClampNeg = N') (hbytes : N' * componentBytes ty ≤ 536870912) (hcells : cells + 1 ≤ R.cells) (hslots : slots + N' ≤ R.slots) (hdg : decode cc pc = .ok (.newarray atype, 2))
    (kk : ∀ (q : Nat) (H1 : Heap), va_P D classesX (ws ++ [(q, .inl (ca ty, N', z))]) H1 → va_D A (ws ++ [(q, .inl (ca ty, N', z))]) → va_S A H0 H1 locs →
      W p l e R s m args below meth c H1 locs (cells + 1) (slots + N') Q (F0 m (pc + 2) ls (.ref q :: rest))) : W p l e R s m args below meth c H locs cells slots Q (F0 m pc ls (.int n :: rest)) := by
  refine va_newa (a0 := (N', z)) hexec hb harr hty hK hP hD hS hA ha hn hN hbytes hcells hslots hdg (fun q cA H1 hK1 hP1 hD1 hS1 => ?_)
  have e1 := (hK1.2 (tyl ca).length (cA, ty) (by simp)).2
  have e2 := (hK.2 t0 _ ht0).2
  have ec : cA = ca ty := by
    subst hty
    cases atype <;> exact Option.some.inj (e1.symm.trans e2)
  subst ec
  exact kk q H1 hP1 hD1 hS1
theorem mn_stand {T : State} {cA comp : ClassId} (X : Stand p l e R s m args below meth c T locs cells slots) : ∀ i, i ≤ 4 → Stand p l e R s m args below meth c (mnSt (arrV comp 24 (fun _ => .long 0)) T.heap.size (T.pushCell (arrV cA 4 (fun _ => .null)), arrV cA 4 (fun _ => .null)) i).1 locs (cells + 1 + i) (slots + 4 + 24 * i)
  | 0, _ => by
    have h := X.pushed (arrV cA 4 (fun _ => .null))
    rw [arrV_size] at h
    exact h
  | i + 1, hi => by
    have h := mn_stand (cA := cA) (comp := comp) X i (by omega)
    have F := mnF T cA comp i
    rw [mnSt]
    generalize mnSt (arrV comp 24 (fun _ => .long 0)) T.heap.size (T.pushCell (arrV cA 4 (fun _ => .null)), arrV cA 4 (fun _ => .null)) i = y at h F
    have h1 := h.pushed (arrV comp 24 (fun _ => .long 0))
    rw [arrV_size] at h1
    have h2 := h1.stored (a := T.heap.size) (cell := y.2) ((State.heap_pushCell_of_lt _ _ (show T.heap.size < y.1.heap.size by rw [F.size]; omega)).trans F.here) i (.ref y.1.heap.size)
    have h3 := h2.forget (fun z hz => by
      rw [List.mem_singleton] at hz
      subst hz
      exact X.same.2.1)
    rw [show cells + 1 + (i + 1) = cells + 1 + i + 1 by omega, show slots + 4 + 24 * (i + 1) = slots + 4 + 24 * i + 24 by omega]
    exact h3
theorem mn_row (hexec : p.tables.exec = Jvm.exec) (hb : c.code = cc) {own : String} {index : Nat} (hown : s.vm.findClass own = some m.cls) (hclink : (Cond.classLink own index "[[J").before args s = true) (hAO : AOA s) (harr : (Cond.arrayClass .long).before args s = true) (hK : va_K D classesX (tyl ca) s) (hP : va_P D classesX ws H) (hD : va_D A ws) (hS : va_S A H0 H locs) (hA : ∀ q, H0.size ≤ q → A q) (hcells : cells + 5 ≤ R.cells) (hslots : slots + 100 ≤ R.slots) (hdg : decode cc pc = .ok (.multianewarray index 2, 4))
    (kk : ∀ (q r0 r1 r2 r3 : Nat) (H1 : Heap), va_P D classesX (ws ++ [(q, .inl (ca (.array .long), 4, .inr (.inr (.inr (.inr (fun i => if i = 0 then some r0 else if i = 1 then some r1 else if i = 2 then some r2 else if i = 3 then some r3 else none)))))), (r0, .inl (ca .long, 24, .inr (.inl (fun _ => 0)))), (r1, .inl (ca .long, 24, .inr (.inl (fun _ => 0)))), (r2, .inl (ca .long, 24, .inr (.inl (fun _ => 0)))), (r3, .inl (ca .long, 24, .inr (.inl (fun _ => 0))))]) H1 → va_D A (ws ++ [(q, .inl (ca (.array .long), 4, .inr (.inr (.inr (.inr (fun i => if i = 0 then some r0 else if i = 1 then some r1 else if i = 2 then some r2 else if i = 3 then some r3 else none)))))), (r0, .inl (ca .long, 24, .inr (.inl (fun _ => 0)))), (r1, .inl (ca .long, 24, .inr (.inl (fun _ => 0)))), (r2, .inl (ca .long, 24, .inr (.inl (fun _ => 0)))), (r3, .inl (ca .long, 24, .inr (.inl (fun _ => 0))))]) → va_S A H0 H1 locs →
      W p l e R s m args below meth c H1 locs (cells + 5) (slots + 100) Q (F0 m (pc + 4) ls (.ref q :: rest))) : W p l e R s m args below meth c H locs cells slots Q (F0 m pc ls (.int 24 :: .int 4 :: rest)) := by
  intro T hT X
  subst hT; subst hb
  obtain ⟨comp, cA, kA, hfC, hkA, hkindA, hfA⟩ := hAO
  obtain ⟨comp', kC, cc0, hfC', hkC, hkindC⟩ := Cond.arrayClass_spec harr
  have e0 : comp' = comp := Option.some.inj (hfC'.symm.trans hfC)
  subst e0
  have hpl : e.platform.magicAccessors = ({} : Platform).magicAccessors := by rw [X.admits.platform]
  obtain ⟨cA', hfA', hcl⟩ := Cond.classLink_spec hown hclink e.platform hpl
  have e1 : cA' = cA := Option.some.inj (hfA'.symm.trans hfA)
  subst e1
  obtain ⟨hg₁, hwarm₁, hready₁⟩ := State.classEntry (e := e) X.warmed hcl
  generalize T.vm.noted m.cls index (.cls cA') = vm₁ at hg₁ hwarm₁ hready₁
  obtain ⟨kA₁, hkA₁, heA⟩ := hwarm₁.alike.2.2 _ _ hkA
  obtain ⟨kC₁, hkC₁, heC⟩ := hwarm₁.alike.2.2 _ _ hkC
  have hkindA₁ : kA₁.kind = .array comp' (.array .long) := by rw [heA]; exact hkindA
  have hkindC₁ : kC₁.kind = .array cc0 .long := by rw [heC]; exact hkindC
  have X₁ := X.noted hwarm₁
  obtain ⟨hr1, hr2⟩ := X.roomAbove hcells hslots
  have X₂ := mn_stand (cA := cA') (comp := comp') X₁ 4 (Nat.le_refl _)
  have F := mnF (T.setVm vm₁) cA' comp' 4
  have hlimit : ¬ 24 > e.platform.arrayLengthLimit := by rw [Launch.admits_arrayLengthLimit X.admits]; decide
  have hheap : ¬ 24 * componentBytes .long > e.platform.maxHeapBytes := by rw [Launch.admits_maxHeapBytes X.admits]; decide
  have hheap4 : ¬ 4 * componentBytes (.array .long) > e.platform.maxHeapBytes := by rw [Launch.admits_maxHeapBytes X.admits]; decide
  generalize hN : (mnSt (arrV comp' 24 (fun _ => .long 0)) T.heap.size ((T.setVm vm₁).pushCell (arrV cA' 4 (fun _ => .null)), arrV cA' 4 (fun _ => .null)) 4) = N
  rw [show (T.setVm vm₁).heap.size = T.heap.size from rfl, hN] at X₂
  have F : MnF (T.setVm vm₁) cA' comp' 4 N := by rw [← hN]; exact F
  have step : ∀ target, Steps p.tables e below (N.1.setTop (F0 m (pc + 4) ls (.ref T.heap.size :: rest))) target → Steps p.tables e below (T.setTop (F0 m pc ls (.int 24 :: .int 4 :: rest))) target := by
    intro target hrest
    jvm_step X.here [hexec, hdg]
    simp only [multianewarray.sem, wp_bind', W.resolveClassAt_links (State.method?_setTop (F0 m pc ls (.int 24 :: .int 4 :: rest)) X.here.top) hg₁]
    rw [W.popN, if_neg (by decide)]
    refine ⟨_, State.topJava?_setTop' _ X₁.here.top, [.int 4, .int 24], rest, rfl, rfl, ?_⟩
    simp only [List.mapM_cons, List.mapM_nil, wp_bind', wp_pure']
    rw [show ((T.setTop (F0 m pc ls (.int 24 :: .int 4 :: rest))).setVm vm₁) = (T.setVm vm₁).setTop (F0 m pc ls (.int 24 :: .int 4 :: rest)) from rfl, State.setTop_setTop]
    refine mn_make (t := (T.setVm vm₁).setTop (F0 m pc ls rest)) hkA₁ hkindA₁ hkC₁ hkindC₁ hlimit hheap hheap4 hr1 hr2 fun d' acts' => ?_
    rw [show (mnSt (arrV comp' 24 (fun _ => .long 0)) ((T.setVm vm₁).setTop (F0 m pc ls rest)).heap.size (((T.setVm vm₁).setTop (F0 m pc ls rest)).pushCell (arrV cA' 4 (fun _ => .null)), arrV cA' 4 (fun _ => .null)) 4).1 = N.1.setTop (F0 m pc ls rest) by
      rw [← hN]
      exact congrArg Prod.fst (mnSt_setTop (arrV comp' 24 (fun _ => .long 0)) T.heap.size ((T.setVm vm₁).pushCell (arrV cA' 4 (fun _ => .null))) (arrV cA' 4 (fun _ => .null)) (F0 m pc ls rest) 4)]
    simp only [wp_bind', W.mark, W.pushRef]
    refine ⟨_, State.topJava?_setTop' _ X₂.here.top, ?_⟩
    intro acts
    simp [jvm, X₂.here.top]
    exact hrest
  have ecC : comp' = ca .long := Option.some.inj (hfC'.symm.trans (hK.2 1 _ rfl).2)
  have ecA : cA' = ca (.array .long) := Option.some.inj (hfA'.symm.trans (hK.2 4 _ rfl).2)
  subst ecC
  have hh : (T.setVm vm₁).heap = T.heap := rfl
  have hsz : N.1.heap.size = T.heap.size + 1 + 4 := F.size
  have ho : ∀ q, q < T.heap.size → N.1.heap[q]? = T.heap[q]? := F.old
  have h0 : N.1.heap[T.heap.size]? = some (arrV (ca (.array .long)) 4 (fun j => if j < 4 then .ref (T.heap.size + 1 + j) else .null)) := by
    rw [← ecA]
    exact F.here.trans (congrArg some F.cell)
  have hr : ∀ j, j < 4 → N.1.heap[T.heap.size + 1 + j]? = some (arrV (ca .long) 24 (fun _ => .long 0)) := F.rows
  have hP1 : va_P D classesX (ws ++ [(T.heap.size, .inl (ca (.array .long), 4, .inr (.inr (.inr (.inr (fun i => if i = 0 then some (T.heap.size + 1) else if i = 1 then some (T.heap.size + 2) else if i = 2 then some (T.heap.size + 3) else if i = 3 then some (T.heap.size + 4) else none)))))), (T.heap.size + 1, .inl (ca .long, 24, .inr (.inl (fun _ => 0)))), (T.heap.size + 2, .inl (ca .long, 24, .inr (.inl (fun _ => 0)))), (T.heap.size + 3, .inl (ca .long, 24, .inr (.inl (fun _ => 0)))), (T.heap.size + 4, .inl (ca .long, 24, .inr (.inl (fun _ => 0))))]) N.1.heap := by
    refine (hP.kept (fun k x hx => ho x.1 ((hP k x hx).lt))).app fun k x hx => ?_
    rcases k with _ | _ | _ | _ | _ | k
    · cases hx
      show N.1.heap[T.heap.size]? = some (vp_cell _ _)
      rw [h0, vp_cell_q]
      congr 2
      funext j
      rcases j with _ | _ | _ | _ | j <;> simp [va_rf]
    · cases hx
      exact hr 0 (by omega)
    · cases hx
      exact hr 1 (by omega)
    · cases hx
      exact hr 2 (by omega)
    · cases hx
      exact hr 3 (by omega)
    · cases hx
  have hD1 := va_D.fresh (w2 := [(T.heap.size, .inl (ca (.array .long), 4, .inr (.inr (.inr (.inr (fun i => if i = 0 then some (T.heap.size + 1) else if i = 1 then some (T.heap.size + 2) else if i = 2 then some (T.heap.size + 3) else if i = 3 then some (T.heap.size + 4) else none)))))), (T.heap.size + 1, .inl (ca .long, 24, .inr (.inl (fun _ => 0)))), (T.heap.size + 2, .inl (ca .long, 24, .inr (.inl (fun _ => 0)))), (T.heap.size + 3, .inl (ca .long, 24, .inr (.inl (fun _ => 0)))), (T.heap.size + 4, .inl (ca .long, 24, .inr (.inl (fun _ => 0))))]) (n := T.heap.size) hD (fun k x hx => (hP k x hx).lt) (fun k x hx => by
    rcases k with _ | _ | _ | _ | _ | k <;> cases hx <;> rfl) (fun k => hA _ (Nat.le_trans hS.1 (Nat.le_add_right _ _)))
  obtain ⟨t, a1, b1⟩ := kk T.heap.size (T.heap.size + 1) (T.heap.size + 2) (T.heap.size + 3) (T.heap.size + 4) N.1.heap hP1 hD1 ⟨Nat.le_trans hS.1 (by omega), fun x h1 h2 => (ho x (Nat.lt_of_lt_of_le h1 hS.1)).trans (hS.2.1 x h1 h2), hS.2.2⟩ N.1 rfl X₂
  exact ⟨t, step t a1, b1⟩
end CRows
