/-! what the constructors' rows stand on -/
/-- the tables know long[] and long[][] -/
def AOA (U : State) : Prop := ∃ (comp cA : ClassId) (kA : Class), U.vm.findClass "[J" = some comp ∧ U.vm.classes[cA]? = some kA ∧ kA.kind = .array comp (.array .long) ∧ U.vm.findClass "[[J" = some cA
theorem AOA.moved {u U : State} (hvm : u.vm.Alike U.vm) (h : AOA u) : AOA U := by
  obtain ⟨comp, cA, kA, h1, h2, h3, h4⟩ := h
  obtain ⟨k', hk', he⟩ := hvm.2.2 _ _ h2
  exact ⟨comp, cA, k', by rw [hvm.findClass]; exact h1, hk', by rw [he]; exact h3, by rw [hvm.findClass]; exact h4⟩
/-- what the constructors take beside the words: long[][], and the private constructors' links -/
def NX (U : State) : Prop := AOA U ∧ va_Nw (.methodLinkNest RX10 9 yX7_init "ParishPull") U ∧ va_Nw (.methodLinkNest RX7 11 yX3_init "ParishPull") U ∧ va_Nw (.methodLinkNest RX10 21 yX8_init "ParishPull") U ∧ va_Nw (.methodLinkNest RX8 17 yX3_init "ParishPull") U ∧ va_Nw (.methodLinkNest RX10 28 yX6_init "ParishPull") U ∧ va_Nw (.methodLinkNest RX10 67 yX1_init "ParishPull") U
theorem NX.warm {s U : State} (hW : s.WarmedH U.vm) (h : NX s) : NX U := ⟨h.1.moved hW.alike, va_Nw.warmM hW h.2.1, va_Nw.warmM hW h.2.2.1, va_Nw.warmM hW h.2.2.2.1, va_Nw.warmM hW h.2.2.2.2.1, va_Nw.warmM hW h.2.2.2.2.2.1, va_Nw.warmM hW h.2.2.2.2.2.2⟩
theorem NX.same {u U : State} (hv : U.vm = u.vm) (h : NX u) : NX U := ⟨h.1.moved (by rw [hv]; exact Vm.Alike.refl u.vm), va_Nw.same rfl hv.symm h.2.1, va_Nw.same rfl hv.symm h.2.2.1, va_Nw.same rfl hv.symm h.2.2.2.1, va_Nw.same rfl hv.symm h.2.2.2.2.1, va_Nw.same rfl hv.symm h.2.2.2.2.2.1, va_Nw.same rfl hv.symm h.2.2.2.2.2.2⟩
theorem good_of_ctor {y : MethodName} {M : mM} {n : Nat} {c0 : Cond} (h : MI y M n) : ∀ w ∈ wsM y M, w ∈ c0 :: TB ∧ ((w.onTables && w.keeps) = true ∨ ∃ ty, w = .arrayClass ty) := fun w hw => ⟨List.mem_cons_of_mem _ (wsM_good h.2.2.1 w hw).1, (wsM_good h.2.2.1 w hw).2⟩
section CRows
variable {p : Program} {l : Launch} {e : Env} {R : Room} {s : State} {m : MethodId} {args : Array Value} {below : List Frame} {meth : Method} {c : Code} {H : Heap} {locs : List Loc} {cells slots : Nat} {Q : State → Prop}
variable {cc : ByteArray} {pc : Nat} {ls : Array Slot} {rest : List Value} {D : va_G} {A : Nat → Prop} {ca : FieldType → ClassId} {ws : va_W} {H0 : Heap}
/-- a new array of numbers: its class is the one that the tables name -/
theorem va_newaC (hexec : p.tables.exec = Jvm.exec) (hb : c.code = cc) {atype : ArrayType} (harr : (Cond.arrayClass (newarray.typeOf atype)).before args s = true) {ty : FieldType} (hty : newarray.typeOf atype = ty) (t0 : Nat) (ht0 : (tyl ca)[t0]? = some (ca ty, ty)) (hK : va_K D classesX (tyl ca) s) (hP : va_P D classesX ws H) (hD : va_D A ws) (hS : va_S A H0 H locs) (hA : ∀ q, H0.size ≤ q → A q)
    {n : Int32} {N' : Nat} {z : ((Nat → Int32) ⊕ (Nat → Int64) ⊕ (Nat → UInt32) ⊕ (Nat → UInt64) ⊕ (Nat → Option Nat))} (ha : ∀ cA : ClassId, vp_cell cA (N', z) = arrV cA N' (fun _ => defaultValue ty)) (hn : ¬ n < 0) (hN : n.toNatClampNeg = N') (hbytes : N' * componentBytes ty ≤ 536870912) (hcells : cells + 1 ≤ R.cells) (hslots : slots + N' ≤ R.slots) (hdg : decode cc pc = .ok (.newarray atype, 2))
    (kk : ∀ (q : Nat) (H1 : Heap), va_P D classesX (ws ++ [(q, .inl (ca ty, N', z))]) H1 → va_D A (ws ++ [(q, .inl (ca ty, N', z))]) → va_S A H0 H1 locs →
      W p l e R s m args below meth c H1 locs (cells + 1) (slots + N') Q (F0 m (pc + 2) ls (.ref q :: rest))) : W p l e R s m args below meth c H locs cells slots Q (F0 m pc ls (.int n :: rest)) := by
  refine va_newa (a0 := (N', z)) hexec hb harr hty hK hP hD hS hA ha hn hN hbytes hcells hslots hdg (fun q cA H1 hK1 hP1 hD1 hS1 => ?_)
  have e1 := (hK1.2 (tyl ca).length (cA, ty) (by simp)).2
  have e2 := (hK.2 t0 _ ht0).2
  have ec : cA = ca ty := by
    subst hty
    cases atype <;> exact Option.some.inj (e1.symm.trans e2)
  subst ec
  exact kk q H1 hP1 hD1 hS1
theorem mn_row (hexec : p.tables.exec = Jvm.exec) (hb : c.code = cc) {own : String} {index : Nat} (hown : s.vm.findClass own = some m.cls) (hclink : (Cond.classLink own index "[[J").before args s = true) (hAO : AOA s) (harr : (Cond.arrayClass .long).before args s = true) (hK : va_K D classesX (tyl ca) s) (hP : va_P D classesX ws H) (hD : va_D A ws) (hS : va_S A H0 H locs) (hA : ∀ q, H0.size ≤ q → A q) (hcells : cells + 5 ≤ R.cells) (hslots : slots + 100 ≤ R.slots) (hdg : decode cc pc = .ok (.multianewarray index 2, 4))
    (kk : ∀ (q r0 r1 r2 r3 : Nat) (H1 : Heap), va_P D classesX (ws ++ [(q, .inl (ca (.array .long), 4, .inr (.inr (.inr (.inr (fun i => if i = 0 then some r0 else if i = 1 then some r1 else if i = 2 then some r2 else if i = 3 then some r3 else none)))))), (r0, .inl (ca .long, 24, .inr (.inl (fun _ => 0)))), (r1, .inl (ca .long, 24, .inr (.inl (fun _ => 0)))), (r2, .inl (ca .long, 24, .inr (.inl (fun _ => 0)))), (r3, .inl (ca .long, 24, .inr (.inl (fun _ => 0))))]) H1 → va_D A (ws ++ [(q, .inl (ca (.array .long), 4, .inr (.inr (.inr (.inr (fun i => if i = 0 then some r0 else if i = 1 then some r1 else if i = 2 then some r2 else if i = 3 then some r3 else none)))))), (r0, .inl (ca .long, 24, .inr (.inl (fun _ => 0)))), (r1, .inl (ca .long, 24, .inr (.inl (fun _ => 0)))), (r2, .inl (ca .long, 24, .inr (.inl (fun _ => 0)))), (r3, .inl (ca .long, 24, .inr (.inl (fun _ => 0))))]) → va_S A H0 H1 locs →
      W p l e R s m args below meth c H1 locs (cells + 5) (slots + 100) Q (F0 m (pc + 4) ls (.ref q :: rest))) : W p l e R s m args below meth c H locs cells slots Q (F0 m pc ls (.int 24 :: .int 4 :: rest)) := by
  sorry
end CRows
