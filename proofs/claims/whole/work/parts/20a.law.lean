def R_law : String := "ParishPullLaw"
def lw_P (b : Addr) (xs : List Int32) (args : Array Value) (s : State) : Prop := args = #[.ref b] ∧ s.IntsAt b xs ∧ xs.length ≤ 576 ∧ (Jvm.Cond.and given_1 narrow_1).before args s = true
def lw_Q (_ : Array Value) (s : State) (o : Outcome) (t : State) : Prop := o = .returned (some (.int 1)) ∧ Framed s o t [] 600000 7302250
def lw_Z (below : List Frame) (a : Array Value) (s : State) : State → Prop := fun t => ∃ o, t.status = .running ∧ Ended t below o ∧ lw_Q a s o t
/-- the law's own end, with 1 on the stack, nothing written that was there before, its room as the claim has it -/
theorem lw_ret {p : Program} {l : Launch} {e : Env} {s : State} {m : MethodId} {below : List Frame} {meth : Method} {c : Code} {b : Nat} (hx : p.tables.exec = Jvm.exec) (hb : c.code = code) (hr : meth.sig.returnType = ret) (hlocks : meth.locks = false) {pc : Nat} {H : Heap} {ls : Array Slot} (hdg : decode code pc = .ok (.ireturn, 1)) : W p l e room_1 s m #[Value.ref b] below meth c H [] 600000 7302250 (lw_Z below #[Value.ref b] s) (F0 m pc ls [.int 1]) := by
  intro T hT X
  obtain ⟨fs, hret, hrun, hended, hW, hframe⟩ := X.leave (v := some (.int 1)) (hlocks := hlocks) (fun h => by rw [hr] at h; cases h)
  have hmeth' : T.vm.method? m = some meth := X.method'
  refine ⟨T.setFrames fs, ?_, .returned (some (.int 1)), hrun, hended, rfl, ⟨_, rfl⟩, hW, hframe⟩
  jvm_step X.here [X.here.top, hx, hb, hdg, hmeth', hr, ret, narrow_b1]
  (try refine ⟨rfl, ?_⟩); (try refine ⟨rfl, ?_⟩)
  first | (intro acts; rw [hret _ acts rfl rfl rfl]) | rw [hret _ _ rfl rfl rfl]
  exact Steps.refl _
/-- what holds at the law's entry: the machine, the code, the tables' words (any of lw_tbl by 'hts w (by decide +kernel)'), the script of L ints xs at the cell b, what the Statement gives of the start (any of its parts by flat_of_before) -/
def lw_At (p : Program) (s : State) (m : MethodId) (meth : Method) (c : Code) (b L : Nat) (xs : Nat → Int32) : Prop :=
  p.tables.exec = Jvm.exec ∧ c.code = code ∧ meth.sig.returnType = ret ∧ c.maxLocals = 4 ∧ s.vm.findClass R_law = some m.cls ∧ (∀ w ∈ lw_tbl, w.before #[Value.ref b] s = true) ∧ va_X b L xs s s.heap ∧ b < s.heap.size ∧ meth.locks = false ∧ (Jvm.Cond.and given_1 narrow_1).before #[Value.ref b] s = true
theorem tb_lw {w : Cond} (h : w ∈ TB) : w ∈ lw_tbl := (List.mem_filter.mp h).1
/-- what the law's loop stands on: the machine, the script at b, the world's addresses -/
def LX (p : Program) (s : State) (m : MethodId) (meth : Method) (c : Code) (b N : Nat) (xs : Nat → Int32) (D : va_G) (ad : Nat → Nat) (ca : FieldType → ClassId) : Prop :=
  lw_At p s m meth c b N xs ∧ va_K D classesX (tyl ca) s ∧ (∀ i j, i < 81 → j < 81 → ad i = ad j → i = j) ∧ Kons ad s s.heap ∧ ad 84 = b ∧ ∀ q, AA ad q → s.heap.size ≤ q
/-- the law at pc: from every heap that holds the world it comes to its end with true -/
def WL (p : Program) (l : Launch) (e : Env) (s : State) (m : MethodId) (below : List Frame) (meth : Method) (c : Code) (b : Nat) (D : va_G) (ad : Nat → Nat) (ca : FieldType → ClassId) (pc : Nat) (lc : List (Option Value)) (st : List Value) (I : mI) (L : mL) : Prop :=
  ∀ (H : Heap) (locs : List Loc) (ls : Array Slot), va_P D classesX (wld ad ca I L) H → va_S (fun q : Nat => s.heap.size ≤ q) s.heap H locs → LH ad ls 4 lc → W p l e room_1 s m #[Value.ref b] below meth c H locs 600000 7302250 (lw_Z below #[Value.ref b] s) (F0 m pc ls (st.map (rn ad)))
section WLRows
variable {p : Program} {l : Launch} {e : Env} {s : State} {m : MethodId} {below : List Frame} {meth : Method} {c : Code} {b N : Nat} {xs : Nat → Int32} {D : va_G} {ad : Nat → Nat} {ca : FieldType → ClassId} {pc : Nat} {lc : List (Option Value)} {st : List Value} {I : mI} {L : mL}
theorem w_iconst (C : LX p s m meth c b N xs D ad ca) {n : Int} {v : Int32} (hd : decode code pc = .ok (.iconst n, 1)) (hv : Int32.ofInt n = v) (k : WL p l e s m below meth c b D ad ca (pc + 1) lc (.int v :: st) I L) : WL p l e s m below meth c b D ad ca pc lc st I L := by
  intro H locs ls hP hS hl
  exact lv_iconst C.1.1 C.1.2.1 hd hv (k H locs ls hP hS hl)
theorem w_bipush (C : LX p s m meth c b N xs D ad ca) {n : Int} {v : Int32} (hd : decode code pc = .ok (.bipush n, 2)) (hv : (Int8.ofInt n).toInt32 = v) (k : WL p l e s m below meth c b D ad ca (pc + 2) lc (.int v :: st) I L) : WL p l e s m below meth c b D ad ca pc lc st I L := by
  intro H locs ls hP hS hl
  exact lv_bipush C.1.1 C.1.2.1 hd hv (k H locs ls hP hS hl)
theorem w_ldc2 (C : LX p s m meth c b N xs D ad ca) {index : Nat} {v : Int64} (hw : Cond.constantLong R_law index v ∈ TB) (hd : decode code pc = .ok (.ldc2_w index, 3)) (k : WL p l e s m below meth c b D ad ca (pc + 3) lc (.long v :: st) I L) : WL p l e s m below meth c b D ad ca pc lc st I L := by
  intro H locs ls hP hS hl
  exact lv_ldc2 C.1.1 C.1.2.1 C.1.2.2.2.2.1 (C.1.2.2.2.2.2.1 _ (tb_lw hw)) hd (k H locs ls hP hS hl)
theorem w_iload_n (C : LX p s m meth c b N xs D ad ca) {q : Fin 4} {i : Nat} {x : Int32} (hd : decode code pc = .ok (.iload_n q, 1)) (hi : (q : Nat) = i) (hx : lc[i]? = some (some (.int x))) (k : WL p l e s m below meth c b D ad ca (pc + 1) lc (.int x :: st) I L) : WL p l e s m below meth c b D ad ca pc lc st I L := by
  intro H locs ls hP hS hl
  exact lv_iload_n C.1.1 C.1.2.1 hd hi (hl.2.2 _ _ hx) (k H locs ls hP hS hl)
theorem w_aload_n (C : LX p s m meth c b N xs D ad ca) {q : Fin 4} {i : Nat} {x : Nat} (hd : decode code pc = .ok (.aload_n q, 1)) (hi : (q : Nat) = i) (hx : lc[i]? = some (some (.ref x))) (k : WL p l e s m below meth c b D ad ca (pc + 1) lc (.ref x :: st) I L) : WL p l e s m below meth c b D ad ca pc lc st I L := by
  intro H locs ls hP hS hl
  exact lv_aload_n C.1.1 C.1.2.1 hd hi (hl.2.2 _ _ hx) (k H locs ls hP hS hl)
theorem w_iadd (C : LX p s m meth c b N xs D ad ca) {x y : Int32} (hd : decode code pc = .ok (.iadd, 1)) (k : WL p l e s m below meth c b D ad ca (pc + 1) lc (.int (x + y) :: st) I L) : WL p l e s m below meth c b D ad ca pc lc (.int y :: .int x :: st) I L := by
  intro H locs ls hP hS hl
  exact lv_iadd C.1.1 C.1.2.1 hd (k H locs ls hP hS hl)
theorem w_isub (C : LX p s m meth c b N xs D ad ca) {x y : Int32} (hd : decode code pc = .ok (.isub, 1)) (k : WL p l e s m below meth c b D ad ca (pc + 1) lc (.int (x - y) :: st) I L) : WL p l e s m below meth c b D ad ca pc lc (.int y :: .int x :: st) I L := by
  intro H locs ls hP hS hl
  exact lv_isub C.1.1 C.1.2.1 hd (k H locs ls hP hS hl)
theorem w_iand (C : LX p s m meth c b N xs D ad ca) {x y : Int32} (hd : decode code pc = .ok (.iand, 1)) (k : WL p l e s m below meth c b D ad ca (pc + 1) lc (.int (x &&& y) :: st) I L) : WL p l e s m below meth c b D ad ca pc lc (.int y :: .int x :: st) I L := by
  intro H locs ls hP hS hl
  exact lv_iand C.1.1 C.1.2.1 hd (k H locs ls hP hS hl)
theorem w_land (C : LX p s m meth c b N xs D ad ca) {x y : Int64} (hd : decode code pc = .ok (.land, 1)) (k : WL p l e s m below meth c b D ad ca (pc + 1) lc (.long (x &&& y) :: st) I L) : WL p l e s m below meth c b D ad ca pc lc (.long y :: .long x :: st) I L := by
  intro H locs ls hP hS hl
  exact lv_land C.1.1 C.1.2.1 hd (k H locs ls hP hS hl)
theorem w_lor (C : LX p s m meth c b N xs D ad ca) {x y : Int64} (hd : decode code pc = .ok (.lor, 1)) (k : WL p l e s m below meth c b D ad ca (pc + 1) lc (.long (x ||| y) :: st) I L) : WL p l e s m below meth c b D ad ca pc lc (.long y :: .long x :: st) I L := by
  intro H locs ls hP hS hl
  exact lv_lor C.1.1 C.1.2.1 hd (k H locs ls hP hS hl)
theorem w_lshl (C : LX p s m meth c b N xs D ad ca) {x : Int64} {y : Int32} (hd : decode code pc = .ok (.lshl, 1)) (k : WL p l e s m below meth c b D ad ca (pc + 1) lc (.long (x <<< (y.toInt64 &&& 63)) :: st) I L) : WL p l e s m below meth c b D ad ca pc lc (.int y :: .long x :: st) I L := by
  intro H locs ls hP hS hl
  exact lv_lshl C.1.1 C.1.2.1 hd rfl (k H locs ls hP hS hl)
theorem w_i2l (C : LX p s m meth c b N xs D ad ca) {x : Int32} (hd : decode code pc = .ok (.i2l, 1)) (k : WL p l e s m below meth c b D ad ca (pc + 1) lc (.long x.toInt64 :: st) I L) : WL p l e s m below meth c b D ad ca pc lc (.int x :: st) I L := by
  intro H locs ls hP hS hl
  exact lv_i2l C.1.1 C.1.2.1 hd rfl (k H locs ls hP hS hl)
theorem w_lcmp (C : LX p s m meth c b N xs D ad ca) {x y : Int64} (hd : decode code pc = .ok (.lcmp, 1)) (k : WL p l e s m below meth c b D ad ca (pc + 1) lc (.int (lg_cmp x y) :: st) I L) : WL p l e s m below meth c b D ad ca pc lc (.long y :: .long x :: st) I L := by
  intro H locs ls hP hS hl
  exact W.lcmp C.1.1 C.1.2.1 hd (k H locs ls hP hS hl)
theorem w_goto (C : LX p s m meth c b N xs D ad ca) {off : Int} {tgt : Nat} (hd : decode code pc = .ok (.goto off, 3)) (ht : (pc : Int) + off = (tgt : Int)) (k : WL p l e s m below meth c b D ad ca tgt lc st I L) : WL p l e s m below meth c b D ad ca pc lc st I L := by
  intro H locs ls hP hS hl
  exact lv_goto C.1.1 C.1.2.1 hd ht (k H locs ls hP hS hl)
theorem w_icmpeq (C : LX p s m meth c b N xs D ad ca) {x : Int32} {off : Int} {tgt : Nat} (hd : decode code pc = .ok (.if_icmp .eq off, 3)) (ht : (pc : Int) + off = (tgt : Int)) (k : WL p l e s m below meth c b D ad ca tgt lc st I L) : WL p l e s m below meth c b D ad ca pc lc (.int x :: .int x :: st) I L := by
  intro H locs ls hP hS hl
  exact lv_icmp_eq C.1.1 C.1.2.1 hd ht (fun _ => k H locs ls hP hS hl) (fun h => absurd rfl h)
theorem w_ifeq (C : LX p s m meth c b N xs D ad ca) {x : Int32} {off : Int} {tgt : Nat} (hx : x = 0) (hd : decode code pc = .ok (.ifCond .eq off, 3)) (ht : (pc : Int) + off = (tgt : Int)) (k : WL p l e s m below meth c b D ad ca tgt lc st I L) : WL p l e s m below meth c b D ad ca pc lc (.int x :: st) I L := by
  intro H locs ls hP hS hl
  exact lv_if_eq C.1.1 C.1.2.1 hd ht (fun _ => k H locs ls hP hS hl) (fun h => absurd hx h)
theorem w_icmpgt (C : LX p s m meth c b N xs D ad ca) {x y : Int32} {off : Int} {tgt : Nat} (hd : decode code pc = .ok (.if_icmp .gt off, 3)) (ht : (pc : Int) + off = (tgt : Int)) (kt : y < x → WL p l e s m below meth c b D ad ca tgt lc st I L) (kf : ¬ y < x → WL p l e s m below meth c b D ad ca (pc + 3) lc st I L) : WL p l e s m below meth c b D ad ca pc lc (.int y :: .int x :: st) I L := by
  intro H locs ls hP hS hl
  exact lv_icmp_gt C.1.1 C.1.2.1 hd ht (fun h => kt h H locs ls hP hS hl) (fun h => kf h H locs ls hP hS hl)
theorem w_iinc (C : LX p s m meth c b N xs D ad ca) {q : Nat} {n : Int} {x v : Int32} (hd : decode code pc = .ok (.iinc q n, 3)) (hx : lc[q]? = some (some (.int x))) (hv : x + Int32.ofInt n = v) (hn : q < 4) (ho : okS lc q = true) (k : WL p l e s m below meth c b D ad ca (pc + 3) (lc.set q (some (.int v))) st I L) : WL p l e s m below meth c b D ad ca pc lc st I L := by
  intro H locs ls hP hS hl
  exact by
    obtain ⟨i, hi⟩ := List.getElem?_of_mem (asl_mem.mpr ⟨_, hx, rfl⟩ : (q, rn ad (.int x)) ∈ asl ad lc)
    exact lv_iinc C.1.1 C.1.2.1 hd hl.has hi hv hn rfl (fun ls hl => k H locs ls hP hS (LH.store1 (v := .int v) ho hl))
theorem w_sld (C : LX p s m meth c b N xs D ad ca) {i : Int32} (hin : vp_in i N) (hd : decode code pc = .ok (.iaload, 1)) (k : WL p l e s m below meth c b D ad ca (pc + 1) lc (.int (xs i.toNatClampNeg) :: st) I L) : WL p l e s m below meth c b D ad ca pc lc (.int i :: .ref 84 :: st) I L := by
  intro H locs ls hP hS hl
  exact by
    show W p l e room_1 s m #[Value.ref b] below meth c H locs 600000 7302250 (lw_Z below #[Value.ref b] s) (F0 m pc ls (.int i :: .ref (ad 84) :: st.map (rn ad)))
    rw [C.2.2.2.2.1]
    exact va_sld (A := fun q : Nat => s.heap.size ≤ q) C.1.1 C.1.2.1 C.1.2.2.2.2.2.2.1 C.1.2.2.2.2.2.2.2.1 (Nat.not_le.mpr C.1.2.2.2.2.2.2.2.1) hS hin hd (k H locs ls hP hS hl)
theorem w_slen (C : LX p s m meth c b N xs D ad ca) (hd : decode code pc = .ok (.arraylength, 1)) (k : WL p l e s m below meth c b D ad ca (pc + 1) lc (.int (Int32.ofNat N) :: st) I L) : WL p l e s m below meth c b D ad ca pc lc (.ref 84 :: st) I L := by
  intro H locs ls hP hS hl
  exact by
    show W p l e room_1 s m #[Value.ref b] below meth c H locs 600000 7302250 (lw_Z below #[Value.ref b] s) (F0 m pc ls (.ref (ad 84) :: st.map (rn ad)))
    rw [C.2.2.2.2.1]
    exact va_slen (A := fun q : Nat => s.heap.size ≤ q) C.1.1 C.1.2.1 C.1.2.2.2.2.2.2.1 C.1.2.2.2.2.2.2.2.1 (Nat.not_le.mpr C.1.2.2.2.2.2.2.2.1) hS hd (k H locs ls hP hS hl)
theorem w_tabIn (C : LX p s m meth c b N xs D ad ca) {dflt lo hi : Int} {offs : Array Int} {len : Nat} {x : Int32} {off : Int} {tgt : Nat} (hd : decode code pc = .ok (.tableswitch dflt lo hi offs, len)) (h1 : ¬ x.toInt < lo) (h2 : ¬ hi < x.toInt) (ho : offs[(x.toInt - lo).toNat]? = some off) (ht : (pc : Int) + off = (tgt : Int)) (k : WL p l e s m below meth c b D ad ca tgt lc st I L) : WL p l e s m below meth c b D ad ca pc lc (.int x :: st) I L := by
  intro H locs ls hP hS hl
  exact lv_tableIn C.1.1 C.1.2.1 hd h1 h2 ho ht (k H locs ls hP hS hl)
theorem w_tabOut (C : LX p s m meth c b N xs D ad ca) {dflt lo hi : Int} {offs : Array Int} {len : Nat} {x : Int32} {tgt : Nat} (hd : decode code pc = .ok (.tableswitch dflt lo hi offs, len)) (h : x.toInt < lo ∨ hi < x.toInt) (ht : (pc : Int) + dflt = (tgt : Int)) (k : WL p l e s m below meth c b D ad ca tgt lc st I L) : WL p l e s m below meth c b D ad ca pc lc (.int x :: st) I L := by
  intro H locs ls hP hS hl
  exact lv_tableOut C.1.1 C.1.2.1 hd h ht (k H locs ls hP hS hl)
theorem w_end (C : LX p s m meth c b N xs D ad ca) (hd : decode code pc = .ok (.ireturn, 1)) : WL p l e s m below meth c b D ad ca pc lc [.int 1] I L := by
  intro H locs ls hP hS hl
  exact va_forget (fun q hq => hS.2.2 q hq) (lw_ret C.1.1 C.1.2.1 C.1.2.2.1 C.1.2.2.2.2.2.2.2.2.1 hd)
theorem cqL {R : Room} {args : Array Value} {H : Heap} {locs : List Loc} {cells slots : Nat} {Q : State → Prop} {ls : Array Slot} {rest st0 : List Value} {a : Array Value} {A0 : Nat → Prop} {Q' : Option Value → mI → mL → Prop} (hr : va_Run p l e R s m args below meth c H locs cells slots 0 0 (F0 m pc ls st0) rest (QQ D ad ca Q' a) (AA ad)) (hA : ∀ q, AA ad q → A0 q) (hS : va_S A0 s.heap H locs)
    (kk : ∀ (v : Option Value) (I : mI) (L : mL) (H1 : Heap) (locs1 : List Loc), Q' v I L → va_P D classesX (wld ad ca I L) H1 → va_S A0 s.heap H1 locs1 → W p l e R s m args below meth c H1 locs1 cells slots Q (F0 m (pc + 3) ls ((v.map (rn ad)).toList ++ rest))) : W p l e R s m args below meth c H locs cells slots Q (F0 m pc ls st0) := by
  intro T hT X
  obtain ⟨v, st₀, t, T', L0, h0, X', hL, e1, e2, ⟨⟨w, I', L', hv, hq, hb⟩, hz, hk⟩, st⟩ := hr T hT X
  cases hv
  rw [h0] at hz hk
  obtain ⟨t2, a1, b1⟩ := kk w I' L' T'.heap (locs ++ L0) hq (by rw [e1]; exact hb)
    ⟨Nat.le_trans hS.1 (by rw [e1]; exact hz), fun q h1 h2 => by rw [e1, hk q (Nat.lt_of_lt_of_le h1 hS.1) (fun z => h2 (hA q z))]; exact hS.2.1 q h1 h2, fun q hq => by
      rcases List.mem_append.mp hq with h | h
      · exact hS.2.2 q h
      · exact hA _ (hL q h)⟩ T' rfl X'
  exact ⟨t2, st t2 a1, b1⟩
theorem w_call (C : LX p s m meth c b N xs D ad ca) {index n d' a ci : Nat} {fs : List (Nat × Nat)} {M : mM} {Q' : Option Value → mI → mL → Prop} (h : CV R_law index M n ci) (hd : decode code pc = .ok (.invokevirtual index, 3)) (hdd : d' + 1 ≤ 13) (ha : (st.drop n).head? = some (.ref a)) (hs : sh a = some (.inr (ci, fs))) (hn : ((st.take n).reverse).length = n) (hr : ((st.drop (n + 1)).map fun v => v.category).sum ≤ 8) (hA : (entA (.ref a :: (st.take n).reverse)).length ≤ M.2.2.1)
    (hc : RR M d' 0 (entL M.2.2.1 (.ref a :: (st.take n).reverse)) [] I L Q') (k : ∀ v I L, Q' v I L → WL p l e s m below meth c b D ad ca (pc + 3) lc (v.toList ++ st.drop (n + 1)) I L) : WL p l e s m below meth c b D ad ca pc lc st I L := by
  intro H locs ls hP hS hl
  obtain ⟨y, T, NN, hM, hw1, hw2, hw3, hcl⟩ := h
  obtain ⟨⟨hx, hb, -, hml, hown, hts0, -, -, -, -⟩, hK, hi, hO, -, hAA⟩ := id C
  have hts : ∀ w ∈ TB, w.before #[Value.ref b] s = true := fun w hw => hts0 w (tb_lw hw)
  have hM' := hM
  obtain ⟨hM1, hM2, hM3, hM4, hM5, hM6⟩ := hM
  have hO' : Kons ad s H := hO.kept (fun a h1 h2 => hS.2.1 a h1 (Nat.not_le.mpr h1))
  have e1 : st = (st.take n).reverse.reverse ++ .ref a :: st.drop (n + 1) := by
    rw [List.reverse_reverse]
    have e : st.drop n = .ref a :: st.drop (n + 1) := by
      rw [← List.drop_drop]
      cases hx : st.drop n with
      | nil => rw [hx] at ha; cases ha
      | cons b r => rw [hx] at ha; cases ha; rfl
    rw [← e, List.take_append_drop]
  have hst : st.map (rn ad) = ((st.take n).reverse.map (rn ad)).reverse ++ .ref (ad a) :: (st.drop (n + 1)).map (rn ad) := by
    have e2 := congrArg (List.map (rn ad)) e1
    rw [List.map_append, List.map_reverse] at e2
    exact e2
  have hcs := cwV (R := room_1) (own := R_law) (C := y.cls) (index := index) (y := y) (bytes := M.2.1) (maxL := M.2.2.1) (ret := M.2.2.2) (ws := wsM y M) (rm := rmm d') (mc := 0) (ms := 0) n hts (fun w hw => by
    unfold wsV at hw
    rcases List.mem_append.mp hw with h | h
    · rcases List.mem_cons.mp h with rfl | h
      · exact ⟨hw1, good_of_word (tb_good hw1)⟩
      · rcases List.mem_cons.mp h with rfl | h
        · exact ⟨hw2, good_of_word (tb_good hw2)⟩
        · rcases List.mem_cons.mp h with rfl | h
          · exact ⟨hw3, good_of_word (tb_good hw3)⟩
          · rcases List.mem_cons.mp h with rfl | h
            · exact ⟨hM4, good_of_word (tb_good hM4)⟩
            · cases h
    · exact wsM_good hM3 w h) rfl rfl rfl ⟨rfl, hM5⟩ ⟨hdd, by show 8 + (M.2.2.1 + 11) + 36 * d' ≤ 500; omega⟩
  refine cqL (va_runV (b := ad a) (As := (st.take n).reverse.map (rn ad)) (rest := (st.drop (n + 1)).map (rn ad)) ⟨hx, hb, hml, hown, hts⟩ (RR.met (l := l) (D := D) (ad := ad) (ca := ca) hM' hi hA hc) hcs ⟨PP_blind, va_recv hK hP hcl (wld_get hs), fun U hU hW => ⟨rfl, by rw [hU]; exact hP, va_K.moved hW.alike hK, by rw [hU]; exact hO'.warm hW⟩⟩ rfl (by rw [List.length_map]; exact hn) hl.1 hst (lv_room (by rw [sum_rn]; exact hr)) hd ⟨Nat.le_refl _, Nat.le_refl _⟩) hAA hS (fun v I' L' H1 locs1 hq hP1 hS1 => ?_)
  have h2 := k v I' L' hq H1 locs1 ls hP1 hS1 hl
  rw [List.map_append] at h2
  cases v with
  | none => exact h2
  | some w => exact h2
end WLRows
