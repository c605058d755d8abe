/-! ROWS OF THE JUDGEMENT: an instruction each -/
theorem sum_rn (ad : Nat → Nat) : ∀ st : List Value, ((st.map (rn ad)).map fun v => v.category).sum = (st.map fun v => v.category).sum
  | [] => rfl
  | v :: r => by simp only [List.map_cons, List.sum_cons, rn_cat, sum_rn ad r]
theorem wld_setA {ad : Nat → Nat} {ca : FieldType → ClassId} {I : mI} {L : mL} {k n : Nat} {ty : FieldType} {f : Nat → Int32} (h : sh k = some (.inl (ty, 0, n))) : (wld ad ca I L).set k (ad k, .inl (ca ty, n, .inl f)) = wld ad ca (pI I k f) L := wld_setI h rfl
theorem wld_setB {ad : Nat → Nat} {ca : FieldType → ClassId} {I : mI} {L : mL} {k n : Nat} {ty : FieldType} {f : Nat → Int64} (h : sh k = some (.inl (ty, 1, n))) : (wld ad ca I L).set k (ad k, .inl (ca ty, n, .inr (.inl f))) = wld ad ca I (pL L k f) := wld_setL h rfl
theorem wld_setF {ad : Nat → Nat} {ca : FieldType → ClassId} {I : mI} {L : mL} {k ci : Nat} {fs : List (Nat × Nat)} {f : Nat → Int32} (h : sh k = some (.inr (ci, fs))) : (wld ad ca I L).set k (ad k, .inr (ci, fs.mapIdx (fldOf ad f (L k)))) = wld ad ca (pI I k f) L := wld_setI h rfl
theorem wld_setG {ad : Nat → Nat} {ca : FieldType → ClassId} {I : mI} {L : mL} {k ci : Nat} {fs : List (Nat × Nat)} {f : Nat → Int64} (h : sh k = some (.inr (ci, fs))) : (wld ad ca I L).set k (ad k, .inr (ci, fs.mapIdx (fldOf ad (I k) f))) = wld ad ca I (pL L k f) := wld_setL h rfl
section RRows
variable {own : String} {cc : ByteArray} {nL d pc : Nat} {rt : Option FieldType} {lc : List (Option Value)} {st : List Value} {I : mI} {L : mL} {Q : Option Value → mI → mL → Prop}
theorem r_iconst {n : Int} {v : Int32} (hd : decode cc pc = .ok (.iconst n, 1)) (hv : Int32.ofInt n = v) (k : RR (own, cc, nL, rt) d (pc + 1) lc (.int v :: st) I L Q) : RR (own, cc, nL, rt) d pc lc st I L Q := by
  intro p l e s m args below meth c D ad ca H locs ls hC hP hS hl
  exact lv_iconst hC.1 hC.2.1 hd hv (k p l e s m args below meth c D ad ca H locs ls hC hP hS hl)
theorem r_bipush {n : Int} {v : Int32} (hd : decode cc pc = .ok (.bipush n, 2)) (hv : (Int8.ofInt n).toInt32 = v) (k : RR (own, cc, nL, rt) d (pc + 2) lc (.int v :: st) I L Q) : RR (own, cc, nL, rt) d pc lc st I L Q := by
  intro p l e s m args below meth c D ad ca H locs ls hC hP hS hl
  exact lv_bipush hC.1 hC.2.1 hd hv (k p l e s m args below meth c D ad ca H locs ls hC hP hS hl)
theorem r_sipush {n : Int} {v : Int32} (hd : decode cc pc = .ok (.sipush n, 3)) (hv : (Int16.ofInt n).toInt32 = v) (k : RR (own, cc, nL, rt) d (pc + 3) lc (.int v :: st) I L Q) : RR (own, cc, nL, rt) d pc lc st I L Q := by
  intro p l e s m args below meth c D ad ca H locs ls hC hP hS hl
  exact lv_sipush hC.1 hC.2.1 hd hv (k p l e s m args below meth c D ad ca H locs ls hC hP hS hl)
theorem r_lconst {n : Fin 2} {v : Int64} (hd : decode cc pc = .ok (.lconst n, 1)) (hv : Int64.ofNat (n : Nat) = v) (k : RR (own, cc, nL, rt) d (pc + 1) lc (.long v :: st) I L Q) : RR (own, cc, nL, rt) d pc lc st I L Q := by
  intro p l e s m args below meth c D ad ca H locs ls hC hP hS hl
  exact lv_lconst hC.1 hC.2.1 hd hv (k p l e s m args below meth c D ad ca H locs ls hC hP hS hl)
theorem r_ldc {index : Nat} {v : Int32} (hw : Cond.constant own index v ∈ TB) (hd : decode cc pc = .ok (.ldc index, 2)) (k : RR (own, cc, nL, rt) d (pc + 2) lc (.int v :: st) I L Q) : RR (own, cc, nL, rt) d pc lc st I L Q := by
  intro p l e s m args below meth c D ad ca H locs ls hC hP hS hl
  exact lv_ldc hC.1 hC.2.1 hC.2.2.2.2.1 (hC.2.2.2.2.2.2.1 _ hw) hd (k p l e s m args below meth c D ad ca H locs ls hC hP hS hl)
theorem r_ldcw {index : Nat} {v : Int32} (hw : Cond.constant own index v ∈ TB) (hd : decode cc pc = .ok (.ldc_w index, 3)) (k : RR (own, cc, nL, rt) d (pc + 3) lc (.int v :: st) I L Q) : RR (own, cc, nL, rt) d pc lc st I L Q := by
  intro p l e s m args below meth c D ad ca H locs ls hC hP hS hl
  exact lv_ldcw hC.1 hC.2.1 hC.2.2.2.2.1 (hC.2.2.2.2.2.2.1 _ hw) hd (k p l e s m args below meth c D ad ca H locs ls hC hP hS hl)
theorem r_ldc2 {index : Nat} {v : Int64} (hw : Cond.constantLong own index v ∈ TB) (hd : decode cc pc = .ok (.ldc2_w index, 3)) (k : RR (own, cc, nL, rt) d (pc + 3) lc (.long v :: st) I L Q) : RR (own, cc, nL, rt) d pc lc st I L Q := by
  intro p l e s m args below meth c D ad ca H locs ls hC hP hS hl
  exact lv_ldc2 hC.1 hC.2.1 hC.2.2.2.2.1 (hC.2.2.2.2.2.2.1 _ hw) hd (k p l e s m args below meth c D ad ca H locs ls hC hP hS hl)
theorem r_iload_n {q : Fin 4} {i : Nat} {x : Int32} (hd : decode cc pc = .ok (.iload_n q, 1)) (hi : (q : Nat) = i) (hx : lc[i]? = some (some (.int x))) (k : RR (own, cc, nL, rt) d (pc + 1) lc (.int x :: st) I L Q) : RR (own, cc, nL, rt) d pc lc st I L Q := by
  intro p l e s m args below meth c D ad ca H locs ls hC hP hS hl
  exact lv_iload_n hC.1 hC.2.1 hd hi (hl.2.2 _ _ hx) (k p l e s m args below meth c D ad ca H locs ls hC hP hS hl)
theorem r_iload {q : Nat} {x : Int32} (hd : decode cc pc = .ok (.iload q, 2)) (hx : lc[q]? = some (some (.int x))) (k : RR (own, cc, nL, rt) d (pc + 2) lc (.int x :: st) I L Q) : RR (own, cc, nL, rt) d pc lc st I L Q := by
  intro p l e s m args below meth c D ad ca H locs ls hC hP hS hl
  exact lv_iload hC.1 hC.2.1 hd (hl.2.2 _ _ hx) (k p l e s m args below meth c D ad ca H locs ls hC hP hS hl)
theorem r_lload_n {q : Fin 4} {i : Nat} {x : Int64} (hd : decode cc pc = .ok (.lload_n q, 1)) (hi : (q : Nat) = i) (hx : lc[i]? = some (some (.long x))) (k : RR (own, cc, nL, rt) d (pc + 1) lc (.long x :: st) I L Q) : RR (own, cc, nL, rt) d pc lc st I L Q := by
  intro p l e s m args below meth c D ad ca H locs ls hC hP hS hl
  exact lv_lload_n hC.1 hC.2.1 hd hi (hl.2.2 _ _ hx) (k p l e s m args below meth c D ad ca H locs ls hC hP hS hl)
theorem r_lload {q : Nat} {x : Int64} (hd : decode cc pc = .ok (.lload q, 2)) (hx : lc[q]? = some (some (.long x))) (k : RR (own, cc, nL, rt) d (pc + 2) lc (.long x :: st) I L Q) : RR (own, cc, nL, rt) d pc lc st I L Q := by
  intro p l e s m args below meth c D ad ca H locs ls hC hP hS hl
  exact lv_lload hC.1 hC.2.1 hd (hl.2.2 _ _ hx) (k p l e s m args below meth c D ad ca H locs ls hC hP hS hl)
theorem r_aload_n {q : Fin 4} {i : Nat} {x : Nat} (hd : decode cc pc = .ok (.aload_n q, 1)) (hi : (q : Nat) = i) (hx : lc[i]? = some (some (.ref x))) (k : RR (own, cc, nL, rt) d (pc + 1) lc (.ref x :: st) I L Q) : RR (own, cc, nL, rt) d pc lc st I L Q := by
  intro p l e s m args below meth c D ad ca H locs ls hC hP hS hl
  exact lv_aload_n hC.1 hC.2.1 hd hi (hl.2.2 _ _ hx) (k p l e s m args below meth c D ad ca H locs ls hC hP hS hl)
theorem r_aload {q : Nat} {x : Nat} (hd : decode cc pc = .ok (.aload q, 2)) (hx : lc[q]? = some (some (.ref x))) (k : RR (own, cc, nL, rt) d (pc + 2) lc (.ref x :: st) I L Q) : RR (own, cc, nL, rt) d pc lc st I L Q := by
  intro p l e s m args below meth c D ad ca H locs ls hC hP hS hl
  exact lv_aload hC.1 hC.2.1 hd (hl.2.2 _ _ hx) (k p l e s m args below meth c D ad ca H locs ls hC hP hS hl)
theorem r_istore_n {q : Fin 4} {i : Nat} {x : Int32} (hd : decode cc pc = .ok (.istore_n q, 1)) (hi : (q : Nat) = i) (hn : i < nL) (ho : okS lc i = true) (k : RR (own, cc, nL, rt) d (pc + 1) (lc.set i (some (.int x))) st I L Q) : RR (own, cc, nL, rt) d pc lc (.int x :: st) I L Q := by
  intro p l e s m args below meth c D ad ca H locs ls hC hP hS hl
  exact lv_istore_n hC.1 hC.2.1 hd hi hl.has hn rfl (fun ls hl => k p l e s m args below meth c D ad ca H locs ls hC hP hS (LH.store1 (v := .int x) ho hl))
theorem r_istore {q : Nat} {x : Int32} (hd : decode cc pc = .ok (.istore q, 2)) (hn : q < nL) (ho : okS lc q = true) (k : RR (own, cc, nL, rt) d (pc + 2) (lc.set q (some (.int x))) st I L Q) : RR (own, cc, nL, rt) d pc lc (.int x :: st) I L Q := by
  intro p l e s m args below meth c D ad ca H locs ls hC hP hS hl
  exact lv_istore hC.1 hC.2.1 hd hl.has hn rfl (fun ls hl => k p l e s m args below meth c D ad ca H locs ls hC hP hS (LH.store1 (v := .int x) ho hl))
theorem r_astore_n {q : Fin 4} {i : Nat} {x : Nat} (hd : decode cc pc = .ok (.astore_n q, 1)) (hi : (q : Nat) = i) (hn : i < nL) (ho : okS lc i = true) (k : RR (own, cc, nL, rt) d (pc + 1) (lc.set i (some (.ref x))) st I L Q) : RR (own, cc, nL, rt) d pc lc (.ref x :: st) I L Q := by
  intro p l e s m args below meth c D ad ca H locs ls hC hP hS hl
  exact lv_astore_n hC.1 hC.2.1 hd hi hl.has hn rfl (fun ls hl => k p l e s m args below meth c D ad ca H locs ls hC hP hS (LH.store1 (v := .ref x) ho hl))
theorem r_astore {q : Nat} {x : Nat} (hd : decode cc pc = .ok (.astore q, 2)) (hn : q < nL) (ho : okS lc q = true) (k : RR (own, cc, nL, rt) d (pc + 2) (lc.set q (some (.ref x))) st I L Q) : RR (own, cc, nL, rt) d pc lc (.ref x :: st) I L Q := by
  intro p l e s m args below meth c D ad ca H locs ls hC hP hS hl
  exact lv_astore hC.1 hC.2.1 hd hl.has hn rfl (fun ls hl => k p l e s m args below meth c D ad ca H locs ls hC hP hS (LH.store1 (v := .ref x) ho hl))
theorem r_lstore_n {q : Fin 4} {i : Nat} {x : Int64} (hd : decode cc pc = .ok (.lstore_n q, 1)) (hi : (q : Nat) = i) (hn : i + 1 < nL) (ho : okS lc i = true) (k : RR (own, cc, nL, rt) d (pc + 1) ((lc.set i (some (.long x))).set (i + 1) none) st I L Q) : RR (own, cc, nL, rt) d pc lc (.long x :: st) I L Q := by
  intro p l e s m args below meth c D ad ca H locs ls hC hP hS hl
  exact lv_lstore_n hC.1 hC.2.1 hd hi hl.has hn rfl (fun ls hl => k p l e s m args below meth c D ad ca H locs ls hC hP hS (LH.store2 (v := .long x) ho hl))
theorem r_lstore {q : Nat} {x : Int64} (hd : decode cc pc = .ok (.lstore q, 2)) (hn : q + 1 < nL) (ho : okS lc q = true) (k : RR (own, cc, nL, rt) d (pc + 2) ((lc.set q (some (.long x))).set (q + 1) none) st I L Q) : RR (own, cc, nL, rt) d pc lc (.long x :: st) I L Q := by
  intro p l e s m args below meth c D ad ca H locs ls hC hP hS hl
  exact lv_lstore hC.1 hC.2.1 hd hl.has hn rfl (fun ls hl => k p l e s m args below meth c D ad ca H locs ls hC hP hS (LH.store2 (v := .long x) ho hl))
theorem r_iinc {q : Nat} {n : Int} {x v : Int32} (hd : decode cc pc = .ok (.iinc q n, 3)) (hx : lc[q]? = some (some (.int x))) (hv : x + Int32.ofInt n = v) (hn : q < nL) (ho : okS lc q = true) (k : RR (own, cc, nL, rt) d (pc + 3) (lc.set q (some (.int v))) st I L Q) : RR (own, cc, nL, rt) d pc lc st I L Q := by
  intro p l e s m args below meth c D ad ca H locs ls hC hP hS hl
  obtain ⟨i, hi⟩ := List.getElem?_of_mem (asl_mem.mpr ⟨_, hx, rfl⟩ : (q, rn ad (.int x)) ∈ asl ad lc)
  exact lv_iinc hC.1 hC.2.1 hd hl.has hi hv hn rfl (fun ls hl => k p l e s m args below meth c D ad ca H locs ls hC hP hS (LH.store1 (v := .int v) ho hl))
theorem r_iadd {x y : Int32} (hd : decode cc pc = .ok (.iadd, 1)) (k : RR (own, cc, nL, rt) d (pc + 1) lc (.int (x + y) :: st) I L Q) : RR (own, cc, nL, rt) d pc lc (.int y :: .int x :: st) I L Q := by
  intro p l e s m args below meth c D ad ca H locs ls hC hP hS hl
  exact lv_iadd hC.1 hC.2.1 hd (k p l e s m args below meth c D ad ca H locs ls hC hP hS hl)
theorem r_isub {x y : Int32} (hd : decode cc pc = .ok (.isub, 1)) (k : RR (own, cc, nL, rt) d (pc + 1) lc (.int (x - y) :: st) I L Q) : RR (own, cc, nL, rt) d pc lc (.int y :: .int x :: st) I L Q := by
  intro p l e s m args below meth c D ad ca H locs ls hC hP hS hl
  exact lv_isub hC.1 hC.2.1 hd (k p l e s m args below meth c D ad ca H locs ls hC hP hS hl)
theorem r_imul {x y : Int32} (hd : decode cc pc = .ok (.imul, 1)) (k : RR (own, cc, nL, rt) d (pc + 1) lc (.int (x * y) :: st) I L Q) : RR (own, cc, nL, rt) d pc lc (.int y :: .int x :: st) I L Q := by
  intro p l e s m args below meth c D ad ca H locs ls hC hP hS hl
  exact lv_imul hC.1 hC.2.1 hd (k p l e s m args below meth c D ad ca H locs ls hC hP hS hl)
theorem r_iand {x y : Int32} (hd : decode cc pc = .ok (.iand, 1)) (k : RR (own, cc, nL, rt) d (pc + 1) lc (.int (x &&& y) :: st) I L Q) : RR (own, cc, nL, rt) d pc lc (.int y :: .int x :: st) I L Q := by
  intro p l e s m args below meth c D ad ca H locs ls hC hP hS hl
  exact lv_iand hC.1 hC.2.1 hd (k p l e s m args below meth c D ad ca H locs ls hC hP hS hl)
theorem r_ior {x y : Int32} (hd : decode cc pc = .ok (.ior, 1)) (k : RR (own, cc, nL, rt) d (pc + 1) lc (.int (x ||| y) :: st) I L Q) : RR (own, cc, nL, rt) d pc lc (.int y :: .int x :: st) I L Q := by
  intro p l e s m args below meth c D ad ca H locs ls hC hP hS hl
  exact lv_ior hC.1 hC.2.1 hd (k p l e s m args below meth c D ad ca H locs ls hC hP hS hl)
theorem r_ixor {x y : Int32} (hd : decode cc pc = .ok (.ixor, 1)) (k : RR (own, cc, nL, rt) d (pc + 1) lc (.int (x ^^^ y) :: st) I L Q) : RR (own, cc, nL, rt) d pc lc (.int y :: .int x :: st) I L Q := by
  intro p l e s m args below meth c D ad ca H locs ls hC hP hS hl
  exact lv_ixor hC.1 hC.2.1 hd (k p l e s m args below meth c D ad ca H locs ls hC hP hS hl)
theorem r_ishl {x y : Int32} (hd : decode cc pc = .ok (.ishl, 1)) (k : RR (own, cc, nL, rt) d (pc + 1) lc (.int (x <<< (y &&& 31)) :: st) I L Q) : RR (own, cc, nL, rt) d pc lc (.int y :: .int x :: st) I L Q := by
  intro p l e s m args below meth c D ad ca H locs ls hC hP hS hl
  exact lv_ishl hC.1 hC.2.1 hd (k p l e s m args below meth c D ad ca H locs ls hC hP hS hl)
theorem r_ishr {x y : Int32} (hd : decode cc pc = .ok (.ishr, 1)) (k : RR (own, cc, nL, rt) d (pc + 1) lc (.int (x >>> (y &&& 31)) :: st) I L Q) : RR (own, cc, nL, rt) d pc lc (.int y :: .int x :: st) I L Q := by
  intro p l e s m args below meth c D ad ca H locs ls hC hP hS hl
  exact lv_ishr hC.1 hC.2.1 hd (k p l e s m args below meth c D ad ca H locs ls hC hP hS hl)
theorem r_idiv {x y : Int32} (hd : decode cc pc = .ok (.idiv, 1)) (hne : ¬ y = 0) (k : RR (own, cc, nL, rt) d (pc + 1) lc (.int (x / y) :: st) I L Q) : RR (own, cc, nL, rt) d pc lc (.int y :: .int x :: st) I L Q := by
  intro p l e s m args below meth c D ad ca H locs ls hC hP hS hl
  exact lv_idiv hC.1 hC.2.1 hd hne (k p l e s m args below meth c D ad ca H locs ls hC hP hS hl)
theorem r_irem {x y : Int32} (hd : decode cc pc = .ok (.irem, 1)) (hne : ¬ y = 0) (k : RR (own, cc, nL, rt) d (pc + 1) lc (.int (x - x / y * y) :: st) I L Q) : RR (own, cc, nL, rt) d pc lc (.int y :: .int x :: st) I L Q := by
  intro p l e s m args below meth c D ad ca H locs ls hC hP hS hl
  exact lv_irem hC.1 hC.2.1 hd hne (k p l e s m args below meth c D ad ca H locs ls hC hP hS hl)
theorem r_iushr {x y : Int32} (hd : decode cc pc = .ok (.iushr, 1)) (k : RR (own, cc, nL, rt) d (pc + 1) lc (.int ((x.toUInt32 >>> (y.toUInt32 &&& Int32.toUInt32 31)).toInt32) :: st) I L Q) : RR (own, cc, nL, rt) d pc lc (.int y :: .int x :: st) I L Q := by
  intro p l e s m args below meth c D ad ca H locs ls hC hP hS hl
  exact lv_iushr hC.1 hC.2.1 hd rfl (k p l e s m args below meth c D ad ca H locs ls hC hP hS hl)
theorem r_ladd {x y : Int64} (hd : decode cc pc = .ok (.ladd, 1)) (k : RR (own, cc, nL, rt) d (pc + 1) lc (.long (x + y) :: st) I L Q) : RR (own, cc, nL, rt) d pc lc (.long y :: .long x :: st) I L Q := by
  intro p l e s m args below meth c D ad ca H locs ls hC hP hS hl
  exact lv_ladd hC.1 hC.2.1 hd (k p l e s m args below meth c D ad ca H locs ls hC hP hS hl)
theorem r_lsub {x y : Int64} (hd : decode cc pc = .ok (.lsub, 1)) (k : RR (own, cc, nL, rt) d (pc + 1) lc (.long (x - y) :: st) I L Q) : RR (own, cc, nL, rt) d pc lc (.long y :: .long x :: st) I L Q := by
  intro p l e s m args below meth c D ad ca H locs ls hC hP hS hl
  exact lv_lsub hC.1 hC.2.1 hd (k p l e s m args below meth c D ad ca H locs ls hC hP hS hl)
theorem r_lmul {x y : Int64} (hd : decode cc pc = .ok (.lmul, 1)) (k : RR (own, cc, nL, rt) d (pc + 1) lc (.long (x * y) :: st) I L Q) : RR (own, cc, nL, rt) d pc lc (.long y :: .long x :: st) I L Q := by
  intro p l e s m args below meth c D ad ca H locs ls hC hP hS hl
  exact lv_lmul hC.1 hC.2.1 hd (k p l e s m args below meth c D ad ca H locs ls hC hP hS hl)
theorem r_land {x y : Int64} (hd : decode cc pc = .ok (.land, 1)) (k : RR (own, cc, nL, rt) d (pc + 1) lc (.long (x &&& y) :: st) I L Q) : RR (own, cc, nL, rt) d pc lc (.long y :: .long x :: st) I L Q := by
  intro p l e s m args below meth c D ad ca H locs ls hC hP hS hl
  exact lv_land hC.1 hC.2.1 hd (k p l e s m args below meth c D ad ca H locs ls hC hP hS hl)
theorem r_lor {x y : Int64} (hd : decode cc pc = .ok (.lor, 1)) (k : RR (own, cc, nL, rt) d (pc + 1) lc (.long (x ||| y) :: st) I L Q) : RR (own, cc, nL, rt) d pc lc (.long y :: .long x :: st) I L Q := by
  intro p l e s m args below meth c D ad ca H locs ls hC hP hS hl
  exact lv_lor hC.1 hC.2.1 hd (k p l e s m args below meth c D ad ca H locs ls hC hP hS hl)
theorem r_ldiv {x y : Int64} (hd : decode cc pc = .ok (.ldiv, 1)) (hne : ¬ y = 0) (k : RR (own, cc, nL, rt) d (pc + 1) lc (.long (x / y) :: st) I L Q) : RR (own, cc, nL, rt) d pc lc (.long y :: .long x :: st) I L Q := by
  intro p l e s m args below meth c D ad ca H locs ls hC hP hS hl
  exact lv_ldiv hC.1 hC.2.1 hd hne (k p l e s m args below meth c D ad ca H locs ls hC hP hS hl)
theorem r_lrem {x y : Int64} (hd : decode cc pc = .ok (.lrem, 1)) (hne : ¬ y = 0) (k : RR (own, cc, nL, rt) d (pc + 1) lc (.long (x - x / y * y) :: st) I L Q) : RR (own, cc, nL, rt) d pc lc (.long y :: .long x :: st) I L Q := by
  intro p l e s m args below meth c D ad ca H locs ls hC hP hS hl
  exact lv_lrem hC.1 hC.2.1 hd hne (k p l e s m args below meth c D ad ca H locs ls hC hP hS hl)
theorem r_lneg {x : Int64} (hd : decode cc pc = .ok (.lneg, 1)) (k : RR (own, cc, nL, rt) d (pc + 1) lc (.long (-x) :: st) I L Q) : RR (own, cc, nL, rt) d pc lc (.long x :: st) I L Q := by
  intro p l e s m args below meth c D ad ca H locs ls hC hP hS hl
  exact lv_lneg hC.1 hC.2.1 hd (k p l e s m args below meth c D ad ca H locs ls hC hP hS hl)
theorem r_ineg {x : Int32} (hd : decode cc pc = .ok (.ineg, 1)) (k : RR (own, cc, nL, rt) d (pc + 1) lc (.int (-x) :: st) I L Q) : RR (own, cc, nL, rt) d pc lc (.int x :: st) I L Q := by
  intro p l e s m args below meth c D ad ca H locs ls hC hP hS hl
  exact lv_ineg hC.1 hC.2.1 hd (k p l e s m args below meth c D ad ca H locs ls hC hP hS hl)
theorem r_lcmp {x y : Int64} (hd : decode cc pc = .ok (.lcmp, 1)) (k : RR (own, cc, nL, rt) d (pc + 1) lc (.int (lg_cmp x y) :: st) I L Q) : RR (own, cc, nL, rt) d pc lc (.long y :: .long x :: st) I L Q := by
  intro p l e s m args below meth c D ad ca H locs ls hC hP hS hl
  exact W.lcmp hC.1 hC.2.1 hd (k p l e s m args below meth c D ad ca H locs ls hC hP hS hl)
theorem r_i2l {x : Int32} (hd : decode cc pc = .ok (.i2l, 1)) (k : RR (own, cc, nL, rt) d (pc + 1) lc (.long (x.toInt64) :: st) I L Q) : RR (own, cc, nL, rt) d pc lc (.int x :: st) I L Q := by
  intro p l e s m args below meth c D ad ca H locs ls hC hP hS hl
  exact lv_i2l hC.1 hC.2.1 hd rfl (k p l e s m args below meth c D ad ca H locs ls hC hP hS hl)
theorem r_l2i {x : Int64} (hd : decode cc pc = .ok (.l2i, 1)) (k : RR (own, cc, nL, rt) d (pc + 1) lc (.int (x.toInt32) :: st) I L Q) : RR (own, cc, nL, rt) d pc lc (.long x :: st) I L Q := by
  intro p l e s m args below meth c D ad ca H locs ls hC hP hS hl
  exact lv_l2i hC.1 hC.2.1 hd rfl (k p l e s m args below meth c D ad ca H locs ls hC hP hS hl)
theorem r_i2s {x : Int32} (hd : decode cc pc = .ok (.i2s, 1)) (k : RR (own, cc, nL, rt) d (pc + 1) lc (.int (x.toInt16.toInt32) :: st) I L Q) : RR (own, cc, nL, rt) d pc lc (.int x :: st) I L Q := by
  intro p l e s m args below meth c D ad ca H locs ls hC hP hS hl
  exact lv_i2s hC.1 hC.2.1 hd rfl (k p l e s m args below meth c D ad ca H locs ls hC hP hS hl)
theorem r_i2b {x : Int32} (hd : decode cc pc = .ok (.i2b, 1)) (k : RR (own, cc, nL, rt) d (pc + 1) lc (.int (x.toInt8.toInt32) :: st) I L Q) : RR (own, cc, nL, rt) d pc lc (.int x :: st) I L Q := by
  intro p l e s m args below meth c D ad ca H locs ls hC hP hS hl
  exact lv_i2b hC.1 hC.2.1 hd rfl (k p l e s m args below meth c D ad ca H locs ls hC hP hS hl)
theorem r_i2c {x : Int32} (hd : decode cc pc = .ok (.i2c, 1)) (k : RR (own, cc, nL, rt) d (pc + 1) lc (.int ((x.toUInt32 % 65536).toInt32) :: st) I L Q) : RR (own, cc, nL, rt) d pc lc (.int x :: st) I L Q := by
  intro p l e s m args below meth c D ad ca H locs ls hC hP hS hl
  exact lv_i2c hC.1 hC.2.1 hd rfl (k p l e s m args below meth c D ad ca H locs ls hC hP hS hl)
theorem r_dup {x : Value} (hd : decode cc pc = .ok (.dup, 1)) (hx : x.category = 1) (k : RR (own, cc, nL, rt) d (pc + 1) lc (x :: x :: st) I L Q) : RR (own, cc, nL, rt) d pc lc (x :: st) I L Q := by
  intro p l e s m args below meth c D ad ca H locs ls hC hP hS hl
  exact lv_dup hC.1 hC.2.1 hd (by rw [rn_cat]; exact hx) (k p l e s m args below meth c D ad ca H locs ls hC hP hS hl)
theorem r_pop {x : Value} (hd : decode cc pc = .ok (.pop, 1)) (hx : x.category = 1) (k : RR (own, cc, nL, rt) d (pc + 1) lc st I L Q) : RR (own, cc, nL, rt) d pc lc (x :: st) I L Q := by
  intro p l e s m args below meth c D ad ca H locs ls hC hP hS hl
  exact lv_pop hC.1 hC.2.1 hd (by rw [rn_cat]; exact hx) (k p l e s m args below meth c D ad ca H locs ls hC hP hS hl)
theorem r_dup2 {x y : Value} (hd : decode cc pc = .ok (.dup2, 1)) (hx : x.category = 1) (hy : y.category = 1) (k : RR (own, cc, nL, rt) d (pc + 1) lc (x :: y :: x :: y :: st) I L Q) : RR (own, cc, nL, rt) d pc lc (x :: y :: st) I L Q := by
  intro p l e s m args below meth c D ad ca H locs ls hC hP hS hl
  exact lv_dup2_11 hC.1 hC.2.1 hd (by rw [rn_cat]; exact hx) (by rw [rn_cat]; exact hy) (k p l e s m args below meth c D ad ca H locs ls hC hP hS hl)
theorem r_if_eq {x : Int32} {off : Int} {tgt : Nat} (hd : decode cc pc = .ok (.ifCond .eq off, 3)) (ht : (pc : Int) + off = (tgt : Int)) (kt : x = 0 → RR (own, cc, nL, rt) d tgt lc st I L Q) (kf : ¬ x = 0 → RR (own, cc, nL, rt) d (pc + 3) lc st I L Q) : RR (own, cc, nL, rt) d pc lc (.int x :: st) I L Q := by
  intro p l e s m args below meth c D ad ca H locs ls hC hP hS hl
  exact lv_if_eq hC.1 hC.2.1 hd ht (fun h => kt h p l e s m args below meth c D ad ca H locs ls hC hP hS hl) (fun h => kf h p l e s m args below meth c D ad ca H locs ls hC hP hS hl)
theorem r_icmp_eq {x y : Int32} {off : Int} {tgt : Nat} (hd : decode cc pc = .ok (.if_icmp .eq off, 3)) (ht : (pc : Int) + off = (tgt : Int)) (kt : x = y → RR (own, cc, nL, rt) d tgt lc st I L Q) (kf : ¬ x = y → RR (own, cc, nL, rt) d (pc + 3) lc st I L Q) : RR (own, cc, nL, rt) d pc lc (.int y :: .int x :: st) I L Q := by
  intro p l e s m args below meth c D ad ca H locs ls hC hP hS hl
  exact lv_icmp_eq hC.1 hC.2.1 hd ht (fun h => kt h p l e s m args below meth c D ad ca H locs ls hC hP hS hl) (fun h => kf h p l e s m args below meth c D ad ca H locs ls hC hP hS hl)
theorem r_if_ne {x : Int32} {off : Int} {tgt : Nat} (hd : decode cc pc = .ok (.ifCond .ne off, 3)) (ht : (pc : Int) + off = (tgt : Int)) (kt : ¬ x = 0 → RR (own, cc, nL, rt) d tgt lc st I L Q) (kf : x = 0 → RR (own, cc, nL, rt) d (pc + 3) lc st I L Q) : RR (own, cc, nL, rt) d pc lc (.int x :: st) I L Q := by
  intro p l e s m args below meth c D ad ca H locs ls hC hP hS hl
  exact lv_if_ne hC.1 hC.2.1 hd ht (fun h => kt h p l e s m args below meth c D ad ca H locs ls hC hP hS hl) (fun h => kf h p l e s m args below meth c D ad ca H locs ls hC hP hS hl)
theorem r_icmp_ne {x y : Int32} {off : Int} {tgt : Nat} (hd : decode cc pc = .ok (.if_icmp .ne off, 3)) (ht : (pc : Int) + off = (tgt : Int)) (kt : ¬ x = y → RR (own, cc, nL, rt) d tgt lc st I L Q) (kf : x = y → RR (own, cc, nL, rt) d (pc + 3) lc st I L Q) : RR (own, cc, nL, rt) d pc lc (.int y :: .int x :: st) I L Q := by
  intro p l e s m args below meth c D ad ca H locs ls hC hP hS hl
  exact lv_icmp_ne hC.1 hC.2.1 hd ht (fun h => kt h p l e s m args below meth c D ad ca H locs ls hC hP hS hl) (fun h => kf h p l e s m args below meth c D ad ca H locs ls hC hP hS hl)
theorem r_if_lt {x : Int32} {off : Int} {tgt : Nat} (hd : decode cc pc = .ok (.ifCond .lt off, 3)) (ht : (pc : Int) + off = (tgt : Int)) (kt : x < 0 → RR (own, cc, nL, rt) d tgt lc st I L Q) (kf : ¬ x < 0 → RR (own, cc, nL, rt) d (pc + 3) lc st I L Q) : RR (own, cc, nL, rt) d pc lc (.int x :: st) I L Q := by
  intro p l e s m args below meth c D ad ca H locs ls hC hP hS hl
  exact lv_if_lt hC.1 hC.2.1 hd ht (fun h => kt h p l e s m args below meth c D ad ca H locs ls hC hP hS hl) (fun h => kf h p l e s m args below meth c D ad ca H locs ls hC hP hS hl)
theorem r_icmp_lt {x y : Int32} {off : Int} {tgt : Nat} (hd : decode cc pc = .ok (.if_icmp .lt off, 3)) (ht : (pc : Int) + off = (tgt : Int)) (kt : x < y → RR (own, cc, nL, rt) d tgt lc st I L Q) (kf : ¬ x < y → RR (own, cc, nL, rt) d (pc + 3) lc st I L Q) : RR (own, cc, nL, rt) d pc lc (.int y :: .int x :: st) I L Q := by
  intro p l e s m args below meth c D ad ca H locs ls hC hP hS hl
  exact lv_icmp_lt hC.1 hC.2.1 hd ht (fun h => kt h p l e s m args below meth c D ad ca H locs ls hC hP hS hl) (fun h => kf h p l e s m args below meth c D ad ca H locs ls hC hP hS hl)
theorem r_if_ge {x : Int32} {off : Int} {tgt : Nat} (hd : decode cc pc = .ok (.ifCond .ge off, 3)) (ht : (pc : Int) + off = (tgt : Int)) (kt : 0 ≤ x → RR (own, cc, nL, rt) d tgt lc st I L Q) (kf : ¬ 0 ≤ x → RR (own, cc, nL, rt) d (pc + 3) lc st I L Q) : RR (own, cc, nL, rt) d pc lc (.int x :: st) I L Q := by
  intro p l e s m args below meth c D ad ca H locs ls hC hP hS hl
  exact lv_if_ge hC.1 hC.2.1 hd ht (fun h => kt h p l e s m args below meth c D ad ca H locs ls hC hP hS hl) (fun h => kf h p l e s m args below meth c D ad ca H locs ls hC hP hS hl)
theorem r_icmp_ge {x y : Int32} {off : Int} {tgt : Nat} (hd : decode cc pc = .ok (.if_icmp .ge off, 3)) (ht : (pc : Int) + off = (tgt : Int)) (kt : y ≤ x → RR (own, cc, nL, rt) d tgt lc st I L Q) (kf : ¬ y ≤ x → RR (own, cc, nL, rt) d (pc + 3) lc st I L Q) : RR (own, cc, nL, rt) d pc lc (.int y :: .int x :: st) I L Q := by
  intro p l e s m args below meth c D ad ca H locs ls hC hP hS hl
  exact lv_icmp_ge hC.1 hC.2.1 hd ht (fun h => kt h p l e s m args below meth c D ad ca H locs ls hC hP hS hl) (fun h => kf h p l e s m args below meth c D ad ca H locs ls hC hP hS hl)
theorem r_if_gt {x : Int32} {off : Int} {tgt : Nat} (hd : decode cc pc = .ok (.ifCond .gt off, 3)) (ht : (pc : Int) + off = (tgt : Int)) (kt : 0 < x → RR (own, cc, nL, rt) d tgt lc st I L Q) (kf : ¬ 0 < x → RR (own, cc, nL, rt) d (pc + 3) lc st I L Q) : RR (own, cc, nL, rt) d pc lc (.int x :: st) I L Q := by
  intro p l e s m args below meth c D ad ca H locs ls hC hP hS hl
  exact lv_if_gt hC.1 hC.2.1 hd ht (fun h => kt h p l e s m args below meth c D ad ca H locs ls hC hP hS hl) (fun h => kf h p l e s m args below meth c D ad ca H locs ls hC hP hS hl)
theorem r_icmp_gt {x y : Int32} {off : Int} {tgt : Nat} (hd : decode cc pc = .ok (.if_icmp .gt off, 3)) (ht : (pc : Int) + off = (tgt : Int)) (kt : y < x → RR (own, cc, nL, rt) d tgt lc st I L Q) (kf : ¬ y < x → RR (own, cc, nL, rt) d (pc + 3) lc st I L Q) : RR (own, cc, nL, rt) d pc lc (.int y :: .int x :: st) I L Q := by
  intro p l e s m args below meth c D ad ca H locs ls hC hP hS hl
  exact lv_icmp_gt hC.1 hC.2.1 hd ht (fun h => kt h p l e s m args below meth c D ad ca H locs ls hC hP hS hl) (fun h => kf h p l e s m args below meth c D ad ca H locs ls hC hP hS hl)
theorem r_if_le {x : Int32} {off : Int} {tgt : Nat} (hd : decode cc pc = .ok (.ifCond .le off, 3)) (ht : (pc : Int) + off = (tgt : Int)) (kt : x ≤ 0 → RR (own, cc, nL, rt) d tgt lc st I L Q) (kf : ¬ x ≤ 0 → RR (own, cc, nL, rt) d (pc + 3) lc st I L Q) : RR (own, cc, nL, rt) d pc lc (.int x :: st) I L Q := by
  intro p l e s m args below meth c D ad ca H locs ls hC hP hS hl
  exact lv_if_le hC.1 hC.2.1 hd ht (fun h => kt h p l e s m args below meth c D ad ca H locs ls hC hP hS hl) (fun h => kf h p l e s m args below meth c D ad ca H locs ls hC hP hS hl)
theorem r_icmp_le {x y : Int32} {off : Int} {tgt : Nat} (hd : decode cc pc = .ok (.if_icmp .le off, 3)) (ht : (pc : Int) + off = (tgt : Int)) (kt : x ≤ y → RR (own, cc, nL, rt) d tgt lc st I L Q) (kf : ¬ x ≤ y → RR (own, cc, nL, rt) d (pc + 3) lc st I L Q) : RR (own, cc, nL, rt) d pc lc (.int y :: .int x :: st) I L Q := by
  intro p l e s m args below meth c D ad ca H locs ls hC hP hS hl
  exact lv_icmp_le hC.1 hC.2.1 hd ht (fun h => kt h p l e s m args below meth c D ad ca H locs ls hC hP hS hl) (fun h => kf h p l e s m args below meth c D ad ca H locs ls hC hP hS hl)
theorem r_goto {off : Int} {tgt : Nat} (hd : decode cc pc = .ok (.goto off, 3)) (ht : (pc : Int) + off = (tgt : Int)) (k : RR (own, cc, nL, rt) d tgt lc st I L Q) : RR (own, cc, nL, rt) d pc lc st I L Q := by
  intro p l e s m args below meth c D ad ca H locs ls hC hP hS hl
  exact lv_goto hC.1 hC.2.1 hd ht (k p l e s m args below meth c D ad ca H locs ls hC hP hS hl)
theorem r_tabIn {dflt lo hi : Int} {offs : Array Int} {len : Nat} {x : Int32} {off : Int} {tgt : Nat} (hd : decode cc pc = .ok (.tableswitch dflt lo hi offs, len)) (h1 : ¬ x.toInt < lo) (h2 : ¬ hi < x.toInt) (ho : offs[(x.toInt - lo).toNat]? = some off) (ht : (pc : Int) + off = (tgt : Int)) (k : RR (own, cc, nL, rt) d tgt lc st I L Q) : RR (own, cc, nL, rt) d pc lc (.int x :: st) I L Q := by
  intro p l e s m args below meth c D ad ca H locs ls hC hP hS hl
  exact lv_tableIn hC.1 hC.2.1 hd h1 h2 ho ht (k p l e s m args below meth c D ad ca H locs ls hC hP hS hl)
theorem r_tabOut {dflt lo hi : Int} {offs : Array Int} {len : Nat} {x : Int32} {tgt : Nat} (hd : decode cc pc = .ok (.tableswitch dflt lo hi offs, len)) (h : x.toInt < lo ∨ hi < x.toInt) (ht : (pc : Int) + dflt = (tgt : Int)) (k : RR (own, cc, nL, rt) d tgt lc st I L Q) : RR (own, cc, nL, rt) d pc lc (.int x :: st) I L Q := by
  intro p l e s m args below meth c D ad ca H locs ls hC hP hS hl
  exact lv_tableOut hC.1 hC.2.1 hd h ht (k p l e s m args below meth c D ad ca H locs ls hC hP hS hl)
theorem r_iald {a n : Nat} {i : Int32} (hs : sh a = some (.inl (.int, 0, n))) (hin : vp_in i n) (hd : decode cc pc = .ok (.iaload, 1)) (k : RR (own, cc, nL, rt) d (pc + 1) lc (.int (I a i.toNatClampNeg) :: st) I L Q) : RR (own, cc, nL, rt) d pc lc (.int i :: .ref a :: st) I L Q := by
  intro p l e s m args below meth c D ad ca H locs ls hC hP hS hl
  exact va_iald hC.1 hC.2.1 hC.2.2.2.2.2.2.2.1 hP a 0 (wld_get hs) rfl hin hd (k p l e s m args below meth c D ad ca H locs ls hC hP hS hl)
theorem r_cald {a n : Nat} {i : Int32} (hs : sh a = some (.inl (.char, 0, n))) (hin : vp_in i n) (hd : decode cc pc = .ok (.caload, 1)) (k : RR (own, cc, nL, rt) d (pc + 1) lc (.int (I a i.toNatClampNeg) :: st) I L Q) : RR (own, cc, nL, rt) d pc lc (.int i :: .ref a :: st) I L Q := by
  intro p l e s m args below meth c D ad ca H locs ls hC hP hS hl
  exact va_cald hC.1 hC.2.1 hC.2.2.2.2.2.2.2.1 hP a 2 (wld_get hs) rfl hin hd (k p l e s m args below meth c D ad ca H locs ls hC hP hS hl)
theorem r_zald {a n : Nat} {i : Int32} (hs : sh a = some (.inl (.boolean, 0, n))) (hin : vp_in i n) (hd : decode cc pc = .ok (.baload, 1)) (k : RR (own, cc, nL, rt) d (pc + 1) lc (.int (I a i.toNatClampNeg) :: st) I L Q) : RR (own, cc, nL, rt) d pc lc (.int i :: .ref a :: st) I L Q := by
  intro p l e s m args below meth c D ad ca H locs ls hC hP hS hl
  exact va_zald hC.1 hC.2.1 hC.2.2.2.2.2.2.2.1 hP a 3 (wld_get hs) rfl hin hd (k p l e s m args below meth c D ad ca H locs ls hC hP hS hl)
theorem r_lald {a n : Nat} {i : Int32} (hs : sh a = some (.inl (.long, 1, n))) (hin : vp_in i n) (hd : decode cc pc = .ok (.laload, 1)) (k : RR (own, cc, nL, rt) d (pc + 1) lc (.long (L a i.toNatClampNeg) :: st) I L Q) : RR (own, cc, nL, rt) d pc lc (.int i :: .ref a :: st) I L Q := by
  intro p l e s m args below meth c D ad ca H locs ls hC hP hS hl
  exact va_lald hC.1 hC.2.1 hC.2.2.2.2.2.2.2.1 hP a 1 (wld_get hs) rfl hin hd (k p l e s m args below meth c D ad ca H locs ls hC hP hS hl)
theorem r_iast {a n : Nat} {i x : Int32} (hs : sh a = some (.inl (.int, 0, n))) (hin : vp_in i n) (hd : decode cc pc = .ok (.iastore, 1)) (k : RR (own, cc, nL, rt) d (pc + 1) lc st (uI I a i.toNatClampNeg x) L Q) : RR (own, cc, nL, rt) d pc lc (.int x :: .int i :: .ref a :: st) I L Q := by
  intro p l e s m args below meth c D ad ca H locs ls hC hP hS hl
  exact va_iast hC.1 hC.2.1 hC.2.2.2.2.2.2.2.1 hP (wld_D hC.2.2.2.2.2.2.2.2.1) hS a 0 (wld_get hs) rfl hin hd (fun H locs hP hD hS => k p l e s m args below meth c D ad ca H locs ls hC (by rw [wld_setA hs] at hP; exact hP) hS hl)
theorem r_cast {a n : Nat} {i x : Int32} (hs : sh a = some (.inl (.char, 0, n))) (hin : vp_in i n) (hd : decode cc pc = .ok (.castore, 1)) (k : RR (own, cc, nL, rt) d (pc + 1) lc st (uI I a i.toNatClampNeg (vp_nar .char x)) L Q) : RR (own, cc, nL, rt) d pc lc (.int x :: .int i :: .ref a :: st) I L Q := by
  intro p l e s m args below meth c D ad ca H locs ls hC hP hS hl
  exact va_cast hC.1 hC.2.1 hC.2.2.2.2.2.2.2.1 hP (wld_D hC.2.2.2.2.2.2.2.2.1) hS a 2 (wld_get hs) rfl hin hd (fun H locs hP hD hS => k p l e s m args below meth c D ad ca H locs ls hC (by rw [wld_setA hs] at hP; exact hP) hS hl)
theorem r_zast {a n : Nat} {i x : Int32} (hs : sh a = some (.inl (.boolean, 0, n))) (hin : vp_in i n) (hd : decode cc pc = .ok (.bastore, 1)) (k : RR (own, cc, nL, rt) d (pc + 1) lc st (uI I a i.toNatClampNeg (vp_nar .boolean x)) L Q) : RR (own, cc, nL, rt) d pc lc (.int x :: .int i :: .ref a :: st) I L Q := by
  intro p l e s m args below meth c D ad ca H locs ls hC hP hS hl
  exact va_zast hC.1 hC.2.1 hC.2.2.2.2.2.2.2.1 hP (wld_D hC.2.2.2.2.2.2.2.2.1) hS a 3 (wld_get hs) rfl hin hd (fun H locs hP hD hS => k p l e s m args below meth c D ad ca H locs ls hC (by rw [wld_setA hs] at hP; exact hP) hS hl)
theorem r_last {a n : Nat} {i : Int32} {x : Int64} (hs : sh a = some (.inl (.long, 1, n))) (hin : vp_in i n) (hd : decode cc pc = .ok (.lastore, 1)) (k : RR (own, cc, nL, rt) d (pc + 1) lc st I (uL L a i.toNatClampNeg x) Q) : RR (own, cc, nL, rt) d pc lc (.long x :: .int i :: .ref a :: st) I L Q := by
  intro p l e s m args below meth c D ad ca H locs ls hC hP hS hl
  exact va_last hC.1 hC.2.1 hC.2.2.2.2.2.2.2.1 hP (wld_D hC.2.2.2.2.2.2.2.2.1) hS a 1 (wld_get hs) rfl hin hd (fun H locs hP hD hS => k p l e s m args below meth c D ad ca H locs ls hC (by rw [wld_setB hs] at hP; exact hP) hS hl)
theorem r_aald {a b n : Nat} {i : Int32} (hs : sh a = some (.inl (.array .long, b + 2, n))) (hin : vp_in i n) (hd : decode cc pc = .ok (.aaload, 1)) (k : RR (own, cc, nL, rt) d (pc + 1) lc (.ref (b + i.toNatClampNeg) :: st) I L Q) : RR (own, cc, nL, rt) d pc lc (.int i :: .ref a :: st) I L Q := by
  intro p l e s m args below meth c D ad ca H locs ls hC hP hS hl
  have hlt : i.toNatClampNeg < n := Nat.not_le.mp fun q => hin (Or.inr q)
  have hv : ∀ f : Nat → Option Nat, f i.toNatClampNeg = some (ad (b + i.toNatClampNeg)) → va_rf (f i.toNatClampNeg) = rn ad (.ref (b + i.toNatClampNeg)) := fun f h => by rw [h]; rfl
  refine W.aald (v := rn ad (.ref (b + i.toNatClampNeg))) (ty := .array .long) hC.1 hC.2.1 (hP a _ (wld_get hs)) ((hC.2.2.2.2.2.2.2.1.2 4 _ rfl).1 n _) rfl (fun q => by cases q) (by show ¬ (i < 0 ∨ (arrV _ _ _).slots.size ≤ _); rw [arrV_size]; exact hin) (by show (arrV _ _ _).slots[_]? = _; rw [arrV_read _ _ hlt]; simp only [if_pos hlt]; rfl) rfl rfl hd (k p l e s m args below meth c D ad ca H locs ls hC hP hS hl)
theorem r_alenI {a n : Nat} {v : Int32} (hs : sh a = some (.inl (.int, 0, n))) (hv : Int32.ofNat n = v) (hd : decode cc pc = .ok (.arraylength, 1)) (k : RR (own, cc, nL, rt) d (pc + 1) lc (.int v :: st) I L Q) : RR (own, cc, nL, rt) d pc lc (.ref a :: st) I L Q := by
  intro p l e s m args below meth c D ad ca H locs ls hC hP hS hl
  exact va_alen hC.1 hC.2.1 hC.2.2.2.2.2.2.2.1 hP a 0 (wld_get hs) rfl hv hd (k p l e s m args below meth c D ad ca H locs ls hC hP hS hl)
theorem r_alenL {a n : Nat} {v : Int32} (hs : sh a = some (.inl (.long, 1, n))) (hv : Int32.ofNat n = v) (hd : decode cc pc = .ok (.arraylength, 1)) (k : RR (own, cc, nL, rt) d (pc + 1) lc (.int v :: st) I L Q) : RR (own, cc, nL, rt) d pc lc (.ref a :: st) I L Q := by
  intro p l e s m args below meth c D ad ca H locs ls hC hP hS hl
  exact va_alen hC.1 hC.2.1 hC.2.2.2.2.2.2.2.1 hP a 1 (wld_get hs) rfl hv hd (k p l e s m args below meth c D ad ca H locs ls hC hP hS hl)
theorem r_ords {index : Nat} (hw : Cond.fieldLink own index RX4 "ORDERS" "[J" ∈ TB) (hd : decode cc pc = .ok (.getstatic index, 3)) (k : RR (own, cc, nL, rt) d (pc + 3) lc (.ref 81 :: st) I L Q) : RR (own, cc, nL, rt) d pc lc st I L Q := by
  intro p l e s m args below meth c D ad ca H locs ls hC hP hS hl
  exact va_gets hC.1 hC.2.1 hC.2.2.2.2.2.2.2.2.2.1 hS hC.2.2.2.2.1 (hC.2.2.2.2.2.2.1 _ hw) (fun _ h => h) hd (k p l e s m args below meth c D ad ca H locs ls hC hP hS hl)
theorem r_ordsA {i : Int32} (hin : vp_in i 9) (hd : decode cc pc = .ok (.laload, 1)) (k : RR (own, cc, nL, rt) d (pc + 1) lc (ordT i.toNatClampNeg :: st) I L Q) : RR (own, cc, nL, rt) d pc lc (.int i :: .ref 81 :: st) I L Q := by
  intro p l e s m args below meth c D ad ca H locs ls hC hP hS hl
  exact va_tl hC.1 hC.2.1 hC.2.2.2.2.2.2.2.2.2.2.1 hS hin rfl hd (k p l e s m args below meth c D ad ca H locs ls hC hP hS hl)
theorem r_ldcS0 (ho : own = RX8) (hd : decode cc pc = .ok (.ldc 49, 2)) (k : RR (own, cc, nL, rt) d (pc + 2) lc (.ref 82 :: st) I L Q) : RR (own, cc, nL, rt) d pc lc st I L Q := by
  intro p l e s m args below meth c D ad ca H locs ls hC hP hS hl
  exact va_ldcS (tx := "lhsa") hC.1 hC.2.1 hC.2.2.2.2.1 (by show vk_R own 49 "lhsa" (ad 82) s; rw [ho]; exact hC.2.2.2.2.2.2.2.2.2.2.2.2.2.2.2.2) hd (k p l e s m args below meth c D ad ca H locs ls hC hP hS hl)
theorem r_strV {index : Nat} (hw : Cond.fieldLink own index RJ0 "value" "[B" ∈ TB) (hd : decode cc pc = .ok (.getfield index, 3)) (k : RR (own, cc, nL, rt) d (pc + 3) lc (.ref 83 :: st) I L Q) : RR (own, cc, nL, rt) d pc lc (.ref 82 :: st) I L Q := by
  intro p l e s m args below meth c D ad ca H locs ls hC hP hS hl
  exact vk_getf hC.1 hC.2.1 hC.2.2.2.2.2.2.2.2.2.2.2.2.2.1 hS hC.2.2.2.2.1 (hC.2.2.2.2.2.2.1 _ hw) (fun _ h => h) hd (k p l e s m args below meth c D ad ca H locs ls hC hP hS hl)
theorem r_strC {index : Nat} (hw : Cond.fieldLink own index RJ0 "coder" "B" ∈ TB) (hd : decode cc pc = .ok (.getfield index, 3)) (k : RR (own, cc, nL, rt) d (pc + 3) lc (.int 0 :: st) I L Q) : RR (own, cc, nL, rt) d pc lc (.ref 82 :: st) I L Q := by
  intro p l e s m args below meth c D ad ca H locs ls hC hP hS hl
  exact vk_getf hC.1 hC.2.1 hC.2.2.2.2.2.2.2.2.2.2.2.2.2.2.1 hS hC.2.2.2.2.1 (hC.2.2.2.2.2.2.1 _ hw) (fun _ h => h) hd (k p l e s m args below meth c D ad ca H locs ls hC hP hS hl)
theorem r_cs {index : Nat} (hw : Cond.fieldLink own index RJ0 "COMPACT_STRINGS" "Z" ∈ TB) (hd : decode cc pc = .ok (.getstatic index, 3)) (k : RR (own, cc, nL, rt) d (pc + 3) lc (.int 1 :: st) I L Q) : RR (own, cc, nL, rt) d pc lc st I L Q := by
  intro p l e s m args below meth c D ad ca H locs ls hC hP hS hl
  exact va_gets hC.1 hC.2.1 hC.2.2.2.2.2.2.2.2.2.2.2.1 hS hC.2.2.2.2.1 (hC.2.2.2.2.2.2.1 _ hw) (fun _ h => h) hd (k p l e s m args below meth c D ad ca H locs ls hC hP hS hl)
theorem r_alenB {v : Int32} (hv : Int32.ofNat 4 = v) (hd : decode cc pc = .ok (.arraylength, 1)) (k : RR (own, cc, nL, rt) d (pc + 1) lc (.int v :: st) I L Q) : RR (own, cc, nL, rt) d pc lc (.ref 83 :: st) I L Q := by
  intro p l e s m args below meth c D ad ca H locs ls hC hP hS hl
  exact va_tlen hC.1 hC.2.1 hC.2.2.2.2.2.2.2.2.2.2.2.2.2.2.2.1 hS hv hd (k p l e s m args below meth c D ad ca H locs ls hC hP hS hl)
theorem r_kald {i : Int32} (hin : vp_in i 4) (hd : decode cc pc = .ok (.baload, 1)) (k : RR (own, cc, nL, rt) d (pc + 1) lc (.int (kinL.getD i.toNatClampNeg 0) :: st) I L Q) : RR (own, cc, nL, rt) d pc lc (.int i :: .ref 83 :: st) I L Q := by
  intro p l e s m args below meth c D ad ca H locs ls hC hP hS hl
  exact va_tb hC.1 hC.2.1 hC.2.2.2.2.2.2.2.2.2.2.2.2.2.2.2.1 hS hin rfl hd (k p l e s m args below meth c D ad ca H locs ls hC hP hS hl)
/-- a field's link: of the method's own class by its entry, to field j of the world's class ci -/
def FL (own : String) (index ci j : Nat) (ty : FieldType) (fin : Bool) : Prop := ∃ (C : String) (T : u_T) (N : Nat) (ty0 : Nat → FieldType), classesX[ci]? = some (C, T, N) ∧ (∀ w ∈ u_ws C T N, w ∈ TB) ∧ j < N ∧ Cond.fieldLink own index (T j).1 (T j).2.1 (T j).2.2.1 ∈ TB ∧ (∀ k, k < N → parseFieldDescriptor (T k).2.2.1 = some (ty0 k)) ∧ (∀ a, a < N → ∀ b, b < N → a ≠ b → (T a).2.1 ≠ (T b).2.1) ∧ ty0 j = ty ∧ (T j).2.2.2 = fin
theorem fs_get {ad : Nat → Nat} {Ik : Nat → Int32} {Lk : Nat → Int64} {fs : List (Nat × Nat)} {j : Nat} {f : Nat × Nat} (h : fs[j]? = some f) : (fs.mapIdx (fldOf ad Ik Lk))[j]? = some (fldOf ad Ik Lk j f) := by
  simp [List.getElem?_mapIdx, h]
theorem fs_setI {ad : Nat → Nat} {Ik : Nat → Int32} {Lk : Nat → Int64} {fs : List (Nat × Nat)} {j b : Nat} {x : Int32} (h : fs[j]? = some (1, b)) : (fs.mapIdx (fldOf ad Ik Lk)).set j (.int x) = fs.mapIdx (fldOf ad (upd Ik j x) Lk) := by
  apply List.ext_getElem?
  intro i
  rw [List.getElem?_set]
  by_cases hi : j = i
  · subst hi
    obtain ⟨hl, hs⟩ := List.getElem?_eq_some_iff.mp h
    simp [List.getElem?_mapIdx, hl, hs, fldOf, upd]
  · rw [if_neg hi]
    simp only [List.getElem?_mapIdx]
    congr 1
    funext f
    obtain ⟨a, b⟩ := f
    match a with
    | 0 => rfl
    | 1 => show Value.int _ = Value.int _; rw [upd, if_neg (fun q => hi q.symm)]
    | n + 2 => rfl
theorem fs_setL {ad : Nat → Nat} {Ik : Nat → Int32} {Lk : Nat → Int64} {fs : List (Nat × Nat)} {j b : Nat} {x : Int64} (h : fs[j]? = some (2, b)) : (fs.mapIdx (fldOf ad Ik Lk)).set j (.long x) = fs.mapIdx (fldOf ad Ik (vp_updL Lk j x)) := by
  apply List.ext_getElem?
  intro i
  rw [List.getElem?_set]
  by_cases hi : j = i
  · subst hi
    obtain ⟨hl, hs⟩ := List.getElem?_eq_some_iff.mp h
    simp [List.getElem?_mapIdx, hl, hs, fldOf, vp_updL]
  · rw [if_neg hi]
    simp only [List.getElem?_mapIdx]
    congr 1
    funext f
    obtain ⟨a, b⟩ := f
    match a with
    | 0 => rfl
    | 1 => rfl
    | n + 2 => show Value.long _ = Value.long _; rw [vp_updL, if_neg (fun q => hi q.symm)]
theorem r_getR {index ci j a b : Nat} {ty : FieldType} {fin : Bool} {fs : List (Nat × Nat)} (hF : FL own index ci j ty fin) (hd : decode cc pc = .ok (.getfield index, 3)) (hs : sh a = some (.inr (ci, fs))) (hf : fs[j]? = some (0, b)) (k : RR (own, cc, nL, rt) d (pc + 3) lc ((.ref b) :: st) I L Q) : RR (own, cc, nL, rt) d pc lc (.ref a :: st) I L Q := by
  intro p l e s m args below meth c D ad ca H locs ls hC hP hS hl
  obtain ⟨C, T, N, ty0, h1, h2, h3, h4, h5, h6, h7, h8⟩ := hF
  exact va_get hC.1 hC.2.1 hC.2.2.2.2.2.2.1 h2 hC.2.2.2.2.1 hC.2.2.2.2.2.2.2.1 hP a (wld_get hs) h1 j h3 (hC.2.2.2.2.2.2.1 _ h4) (fun _ h => h) (fs_get hf) hd (k p l e s m args below meth c D ad ca H locs ls hC hP hS hl)
theorem r_getI {index ci j a b : Nat} {ty : FieldType} {fin : Bool} {fs : List (Nat × Nat)} (hF : FL own index ci j ty fin) (hd : decode cc pc = .ok (.getfield index, 3)) (hs : sh a = some (.inr (ci, fs))) (hf : fs[j]? = some (1, b)) (k : RR (own, cc, nL, rt) d (pc + 3) lc ((.int (I a j)) :: st) I L Q) : RR (own, cc, nL, rt) d pc lc (.ref a :: st) I L Q := by
  intro p l e s m args below meth c D ad ca H locs ls hC hP hS hl
  obtain ⟨C, T, N, ty0, h1, h2, h3, h4, h5, h6, h7, h8⟩ := hF
  exact va_get hC.1 hC.2.1 hC.2.2.2.2.2.2.1 h2 hC.2.2.2.2.1 hC.2.2.2.2.2.2.2.1 hP a (wld_get hs) h1 j h3 (hC.2.2.2.2.2.2.1 _ h4) (fun _ h => h) (fs_get hf) hd (k p l e s m args below meth c D ad ca H locs ls hC hP hS hl)
theorem r_getL {index ci j a b : Nat} {ty : FieldType} {fin : Bool} {fs : List (Nat × Nat)} (hF : FL own index ci j ty fin) (hd : decode cc pc = .ok (.getfield index, 3)) (hs : sh a = some (.inr (ci, fs))) (hf : fs[j]? = some (2, b)) (k : RR (own, cc, nL, rt) d (pc + 3) lc ((.long (L a j)) :: st) I L Q) : RR (own, cc, nL, rt) d pc lc (.ref a :: st) I L Q := by
  intro p l e s m args below meth c D ad ca H locs ls hC hP hS hl
  obtain ⟨C, T, N, ty0, h1, h2, h3, h4, h5, h6, h7, h8⟩ := hF
  exact va_get hC.1 hC.2.1 hC.2.2.2.2.2.2.1 h2 hC.2.2.2.2.1 hC.2.2.2.2.2.2.2.1 hP a (wld_get hs) h1 j h3 (hC.2.2.2.2.2.2.1 _ h4) (fun _ h => h) (fs_get hf) hd (k p l e s m args below meth c D ad ca H locs ls hC hP hS hl)
theorem r_putI {index ci j a b : Nat} {ty : FieldType} {fs : List (Nat × Nat)} {x : Int32} (hF : FL own index ci j ty false) (hn : narrow ty (.int x) = .int x) (hfit : fits ty (.int x) = true) (hd : decode cc pc = .ok (.putfield index, 3)) (hs : sh a = some (.inr (ci, fs))) (hf : fs[j]? = some (1, b)) (k : RR (own, cc, nL, rt) d (pc + 3) lc st (uI I a j x) L Q) : RR (own, cc, nL, rt) d pc lc (.int x :: .ref a :: st) I L Q := by
  intro p l e s m args below meth c D ad ca H locs ls hC hP hS hl
  obtain ⟨C, T, N, ty0, h1, h2, h3, h4, h5, h6, h7, h8⟩ := hF
  refine va_put (v := .int x) hC.1 hC.2.1 hC.2.2.2.2.2.2.1 h2 ty0 h5 h6 hC.2.2.2.2.1 hC.2.2.2.2.2.2.2.1 hP (wld_D hC.2.2.2.2.2.2.2.2.1) hS a (wld_get hs) h1 j h3 (hC.2.2.2.2.2.2.1 _ h4) (fun _ h => h) h8 (by rw [h5 j h3, h7]) hn hfit (by rw [List.length_mapIdx]; exact (List.getElem?_eq_some_iff.mp hf).1) hd (fun H locs hP hD hS => k p l e s m args below meth c D ad ca H locs ls hC ?_ hS hl)
  rw [fs_setI hf, wld_setF hs] at hP
  exact hP
theorem r_putL {index ci j a b : Nat} {ty : FieldType} {fs : List (Nat × Nat)} {x : Int64} (hF : FL own index ci j ty false) (hn : narrow ty (.long x) = .long x) (hfit : fits ty (.long x) = true) (hd : decode cc pc = .ok (.putfield index, 3)) (hs : sh a = some (.inr (ci, fs))) (hf : fs[j]? = some (2, b)) (k : RR (own, cc, nL, rt) d (pc + 3) lc st I (uL L a j x) Q) : RR (own, cc, nL, rt) d pc lc (.long x :: .ref a :: st) I L Q := by
  intro p l e s m args below meth c D ad ca H locs ls hC hP hS hl
  obtain ⟨C, T, N, ty0, h1, h2, h3, h4, h5, h6, h7, h8⟩ := hF
  refine va_put (v := .long x) hC.1 hC.2.1 hC.2.2.2.2.2.2.1 h2 ty0 h5 h6 hC.2.2.2.2.1 hC.2.2.2.2.2.2.2.1 hP (wld_D hC.2.2.2.2.2.2.2.2.1) hS a (wld_get hs) h1 j h3 (hC.2.2.2.2.2.2.1 _ h4) (fun _ h => h) h8 (by rw [h5 j h3, h7]) hn hfit (by rw [List.length_mapIdx]; exact (List.getElem?_eq_some_iff.mp hf).1) hd (fun H locs hP hD hS => k p l e s m args below meth c D ad ca H locs ls hC ?_ hS hl)
  rw [fs_setL hf, wld_setG hs] at hP
  exact hP
/-- a call's site of Math.max -/
def Cmax (own : String) (index : Nat) : Prop := Cond.methodLink own index Lib.Math.max.name ∈ TB ∧ Cond.static Lib.Math.max.name ∈ TB ∧ Cond.initialized "java/lang/Math" ∈ TB ∧ Cond.code Lib.Math.max.name Lib.Math.max.code 2 (some .int) ∈ TB
theorem r_mmax {index : Nat} {x y : Int32} (hw : Cmax own index) (hd : decode cc pc = .ok (.invokestatic index, 3)) (h1 : 1 ≤ d) (hr : (st.map fun v => v.category).sum ≤ 8) (k : RR (own, cc, nL, rt) d (pc + 3) lc (.int (if x < y then y else x) :: st) I L Q) : RR (own, cc, nL, rt) d pc lc (.int y :: .int x :: st) I L Q := by
  intro p l e s m args below meth c D ad ca H locs ls hC hP hS hl
  have hts := hC.2.2.2.2.2.2.1
  exact va_mmax hC.1 hC.2.1 (by rw [hC.2.2.2.1, hl.1]) hC.2.2.2.2.1 (hts _ hw.1) (hts _ hw.2.1) (hts _ hw.2.2.1) (hts _ hw.2.2.2) h1 (by have := sum_rn ad st; show _ ≤ 36 * d; omega) (Nat.zero_le _) (Nat.zero_le _) hd (k p l e s m args below meth c D ad ca H locs ls hC hP hS hl)
/-- a call's site of Math.min -/
def Cmin (own : String) (index : Nat) : Prop := Cond.methodLink own index Lib.Math.min.name ∈ TB ∧ Cond.static Lib.Math.min.name ∈ TB ∧ Cond.initialized "java/lang/Math" ∈ TB ∧ Cond.code Lib.Math.min.name Lib.Math.min.code 2 (some .int) ∈ TB
theorem r_mmin {index : Nat} {x y : Int32} (hw : Cmin own index) (hd : decode cc pc = .ok (.invokestatic index, 3)) (h1 : 1 ≤ d) (hr : (st.map fun v => v.category).sum ≤ 8) (k : RR (own, cc, nL, rt) d (pc + 3) lc (.int (if y < x then y else x) :: st) I L Q) : RR (own, cc, nL, rt) d pc lc (.int y :: .int x :: st) I L Q := by
  intro p l e s m args below meth c D ad ca H locs ls hC hP hS hl
  have hts := hC.2.2.2.2.2.2.1
  exact va_mmin hC.1 hC.2.1 (by rw [hC.2.2.2.1, hl.1]) hC.2.2.2.2.1 (hts _ hw.1) (hts _ hw.2.1) (hts _ hw.2.2.1) (hts _ hw.2.2.2) h1 (by have := sum_rn ad st; show _ ≤ 36 * d; omega) (Nat.zero_le _) (Nat.zero_le _) hd (k p l e s m args below meth c D ad ca H locs ls hC hP hS hl)
/-- a call's site of System.arraycopy -/
def Cac (own : String) (index : Nat) : Prop := Cond.methodLink own index arraycopyName ∈ TB ∧ Cond.native arraycopyName ∈ TB ∧ Cond.static arraycopyName ∈ TB ∧ Cond.initialized "java/lang/System" ∈ TB
theorem nfw_le {d x : Nat} (h1 : 1 ≤ d) (h : x ≤ 8) : x + (nativeFrameWords "java/lang/System" "arraycopy" 5 + 11) ≤ (rmm d).locals := by
  have : nativeFrameWords "java/lang/System" "arraycopy" 5 = 7 := by decide +kernel
  rw [this]
  show _ ≤ 36 * d
  omega
theorem r_copyI {index a b n0 n1 : Nat} {sp dp n : Int32} (hw : Cac own index) (hs0 : sh a = some (.inl (.int, 0, n0))) (hs1 : sh b = some (.inl (.int, 0, n1))) (h1 : ¬ sp < 0) (h2 : ¬ dp < 0) (h3 : ¬ n < 0) (h4 : sp.toNatClampNeg + n.toNatClampNeg ≤ n0) (h5 : dp.toNatClampNeg + n.toNatClampNeg ≤ n1) (hd : decode cc pc = .ok (.invokestatic index, 3)) (hdd : 1 ≤ d) (hr : (st.map fun v => v.category).sum ≤ 8) (k : RR (own, cc, nL, rt) d (pc + 3) lc st (pI I b (va_cpy (I a) (I b) sp.toNatClampNeg dp.toNatClampNeg n.toNatClampNeg)) L Q) : RR (own, cc, nL, rt) d pc lc (.int n :: .int dp :: .ref b :: .int sp :: .ref a :: st) I L Q := by
  intro p l e s m args below meth c D ad ca H locs ls hC hP hS hl
  have hts := hC.2.2.2.2.2.2.1
  exact va_copyi hC.1 hC.2.1 (by rw [hC.2.2.2.1, hl.1]) hC.2.2.2.2.1 (hts _ hw.1) (hts _ hw.2.1) (hts _ hw.2.2.1) (hts _ hw.2.2.2) hC.2.2.2.2.2.2.2.1 hP (wld_D hC.2.2.2.2.2.2.2.2.1) hS a b 0 0 (wld_get hs0) (wld_get hs1) rfl rfl rfl h1 h2 h3 h4 h5 (fun _ _ => rfl) hdd (nfw_le hdd (by rw [sum_rn]; exact hr)) hd (fun H locs hP hD hS => k p l e s m args below meth c D ad ca H locs ls hC (by rw [wld_setA hs1] at hP; exact hP) hS hl)
theorem r_copyL {index a b n0 n1 : Nat} {sp dp n : Int32} (hw : Cac own index) (hs0 : sh a = some (.inl (.long, 1, n0))) (hs1 : sh b = some (.inl (.long, 1, n1))) (h1 : ¬ sp < 0) (h2 : ¬ dp < 0) (h3 : ¬ n < 0) (h4 : sp.toNatClampNeg + n.toNatClampNeg ≤ n0) (h5 : dp.toNatClampNeg + n.toNatClampNeg ≤ n1) (hd : decode cc pc = .ok (.invokestatic index, 3)) (hdd : 1 ≤ d) (hr : (st.map fun v => v.category).sum ≤ 8) (k : RR (own, cc, nL, rt) d (pc + 3) lc st I (pL L b (va_cpy (L a) (L b) sp.toNatClampNeg dp.toNatClampNeg n.toNatClampNeg)) Q) : RR (own, cc, nL, rt) d pc lc (.int n :: .int dp :: .ref b :: .int sp :: .ref a :: st) I L Q := by
  intro p l e s m args below meth c D ad ca H locs ls hC hP hS hl
  have hts := hC.2.2.2.2.2.2.1
  exact va_copyl hC.1 hC.2.1 (by rw [hC.2.2.2.1, hl.1]) hC.2.2.2.2.1 (hts _ hw.1) (hts _ hw.2.1) (hts _ hw.2.2.1) (hts _ hw.2.2.2) hC.2.2.2.2.2.2.2.1 hP (wld_D hC.2.2.2.2.2.2.2.2.1) hS a b 1 1 (wld_get hs0) (wld_get hs1) rfl rfl rfl h1 h2 h3 h4 h5 (fun _ _ => rfl) hdd (nfw_le hdd (by rw [sum_rn]; exact hr)) hd (fun H locs hP hD hS => k p l e s m args below meth c D ad ca H locs ls hC (by rw [wld_setB hs1] at hP; exact hP) hS hl)
theorem r_iret {ty : FieldType} {v : Int32} (hn : narrow ty (.int v) = .int v) (hd : decode cc pc = .ok (.ireturn, 1)) (hQ : Q (some (.int v)) I L) : RR (own, cc, nL, some ty) d pc lc [.int v] I L Q := by
  intro p l e s m args below meth c D ad ca H locs ls hC hP hS hl
  exact W.zret (v := v) hC.1 hC.2.1 hC.2.2.1 hn (fun t ht hW => ⟨⟨some (.int v), I, L, rfl, hQ, by rw [ht]; exact hP⟩, hS.F ht⟩) hS.2.2 hd hC.2.2.2.2.2.1
theorem r_lret {v : Int64} (hd : decode cc pc = .ok (.lreturn, 1)) (hQ : Q (some (.long v)) I L) : RR (own, cc, nL, some .long) d pc lc [.long v] I L Q := by
  intro p l e s m args below meth c D ad ca H locs ls hC hP hS hl
  exact W.lret (v := v) hC.1 hC.2.1 hC.2.2.1 (fun t ht hW => ⟨⟨some (.long v), I, L, rfl, hQ, by rw [ht]; exact hP⟩, hS.F ht⟩) hS.2.2 hd hC.2.2.2.2.2.1
theorem r_vret (hd : decode cc pc = .ok (.return_, 1)) (hQ : Q none I L) : RR (own, cc, nL, none) d pc lc [] I L Q := by
  intro p l e s m args below meth c D ad ca H locs ls hC hP hS hl
  exact W.vret hC.1 hC.2.1 hC.2.2.1 (fun t ht hW => ⟨⟨none, I, L, rfl, hQ, by rw [ht]; exact hP⟩, hS.F ht⟩) hS.2.2 hd hC.2.2.2.2.2.1
/-- weaker ends -/
theorem RR.mono {M : mM} {Q' : Option Value → mI → mL → Prop} (h : ∀ v I L, Q v I L → Q' v I L) (k : RR M d pc lc st I L Q) : RR M d pc lc st I L Q' := by
  intro p l e s m args below meth c D ad ca H locs ls hC hP hS hl T hT X
  obtain ⟨t, a, o, b1, b2, ⟨⟨v, I', L', c1, c2, c3⟩, c4⟩, b4⟩ := k p l e s m args below meth c D ad ca H locs ls hC hP hS hl T hT X
  exact ⟨t, a, o, b1, b2, ⟨⟨v, I', L', c1, h _ _ _ c2, c3⟩, c4⟩, b4⟩
end RRows
