/-! CALLS -/
abbrev wsM (y : MethodName) (M : mM) : List Cond := Cond.code y M.2.1 M.2.2.1 M.2.2.2 :: TB
theorem wsM_good {y : MethodName} {M : mM} (h : Cond.code y M.2.1 M.2.2.1 M.2.2.2 ∈ TB) : GoodIn TB (wsM y M) := by
  intro w hw
  rcases List.mem_cons.mp hw with rfl | hw
  · exact ⟨h, good_of_word (tb_good h)⟩
  · exact ⟨hw, good_of_word (tb_good hw)⟩
/-- the locals at a method's entry -/
def entA : List Value → List (Option Value)
  | [] => []
  | v :: r => if v.category = 2 then some v :: none :: entA r else some v :: entA r
def entL (nL : Nat) (As : List Value) : List (Option Value) := entA As ++ List.replicate (nL - (entA As).length) none
theorem entA_at (ad : Nat → Nat) : ∀ (As : List Value) (b i : Nat) (v : Value), (entA As)[i]? = some (some v) → (b + i, rn ad v) ∈ lv_args b (As.map (rn ad))
  | [], b, i, v, h => by simp [entA] at h
  | a :: r, b, i, v, h => by
    unfold entA at h
    show (b + i, rn ad v) ∈ lv_args b (rn ad a :: r.map (rn ad))
    unfold lv_args
    rw [rn_cat]
    split at h
    · rename_i hc
      rw [if_pos hc]
      match i, h with
      | 0, h => cases h; exact List.mem_cons_self
      | 1, h => cases h
      | i + 2, h =>
        have h2 := entA_at ad r (b + 2) i v h
        refine List.mem_cons_of_mem _ ?_
        rw [show b + (i + 2) = b + 2 + i by omega]
        exact h2
    · rename_i hc
      rw [if_neg hc]
      match i, h with
      | 0, h => cases h; exact List.mem_cons_self
      | i + 1, h =>
        have h2 := entA_at ad r (b + 1) i v h
        refine List.mem_cons_of_mem _ ?_
        rw [show b + (i + 1) = b + 1 + i by omega]
        exact h2
theorem LH.entry {ad : Nat → Nat} {ls : Array Slot} {nL : Nat} {As : List Value} (h : lv_has ls nL (lv_args 0 (As.map (rn ad)))) : LH ad ls nL (entL nL As) := by
  refine ⟨h.1, h.2.1, fun i v hi => ?_⟩
  unfold entL at hi
  by_cases hl : i < (entA As).length
  · rw [List.getElem?_append_left hl] at hi
    have := h.2.2 _ (entA_at ad As 0 i v hi)
    rw [Nat.zero_add] at this
    exact this
  · rw [List.getElem?_append_right (Nat.not_lt.mp hl)] at hi
    rw [List.getElem?_replicate] at hi
    split at hi <;> cases hi
/-- what a call stands on, of the callee: its code among the words, its class taken as initialised -/
def MI (y : MethodName) (M : mM) (n : Nat) : Prop := M.1 = y.cls ∧ plainName y.cls = true ∧ Cond.code y M.2.1 M.2.2.1 M.2.2.2 ∈ TB ∧ Cond.initialized y.cls ∈ TB ∧ (y.cls ≠ "java/lang/invoke/MethodHandle" ∧ y.cls ≠ "java/lang/invoke/VarHandle" ∧ (parseMethodDescriptor y.desc).map (fun d => d.parameters.length) = some n) ∧ M.2.2.1 ≤ 17
/-- a method's start, as its callers give it -/
def PP (D : va_G) (ad : Nat → Nat) (ca : FieldType → ClassId) (As : List Value) (I : mI) (L : mL) : Array Value → State → Prop := va_Pc (As.map (rn ad)) (fun U => va_P D classesX (wld ad ca I L) U.heap ∧ va_K D classesX (tyl ca) U ∧ Kons ad U U.heap)
theorem PP_blind {D : va_G} {ad : Nat → Nat} {ca : FieldType → ClassId} {As : List Value} {I : mI} {L : mL} : FrameBlind (PP D ad ca As I L) := by
  intro a U g mk h
  obtain ⟨h1, h2, h3, h4⟩ := h
  exact ⟨h1, h2, va_K.moved (u := U) (U := U.calling g mk a) (Vm.Alike.refl U.vm) h3, Kons.same (u := U) (U := U.calling g mk a) rfl h4⟩
/-- THE CONTRACT out of the judgement at a method's entry -/
theorem RR.met {l : Launch} {y : MethodName} {M : mM} {n d : Nat} {As : List Value} {I : mI} {L : mL} {Q : Option Value → mI → mL → Prop} {D : va_G} {ad : Nat → Nat} {ca : FieldType → ClassId} (hM : MI y M n) (hi : ∀ i j, i < 81 → j < 81 → ad i = ad j → i = j) (hA : (entA As).length ≤ M.2.2.1) (h : RR M d 0 (entL M.2.2.1 As) [] I L Q) :
    Met l y (wsM y M) (rmm d) (PP D ad ca As I L) (QQ D ad ca Q) 0 0 (AA ad) := by
  obtain ⟨hM1, hM2, hM3, hM4, hM5, hM6⟩ := hM
  refine Met.ofW (cc := M.2.1) (maxL := M.2.2.1) (ret := M.2.2.2) hM2 rfl ?_
  intro p e s m args below meth c s₁ B hml hv
  obtain ⟨rfl, hP, hK, hO⟩ := hv
  have hts := atoms_spec (ws := wsM y M) B.pre
  have hown : s.vm.findClass y.cls = some m.cls := findClass_of_methodNamed B.named
  have hlen : (lg_sl (As.map (rn ad))).length ≤ M.2.2.1 := by
    refine Nat.le_trans (Nat.le_of_eq ?_) hA
    clear hA h hP hts B
    induction As with
    | nil => rfl
    | cons a r ih =>
      unfold entA lg_sl
      unfold lg_sl at ih
      rw [List.map_cons, List.flatMap_cons, List.length_append, ih, rn_cat]
      split <;> simp <;> omega
  have hl := lv_entry (As.map (rn ad)) (n := M.2.2.1) hlen
  rw [lg_entry_eq]
  generalize (lg_sl (As.map (rn ad)) ++ List.replicate (M.2.2.1 - (lg_sl (As.map (rn ad))).length) Slot.unset).toArray = ls at hl ⊢
  exact h p l e s m _ below meth c D ad ca s.heap [] ls ⟨B.exec, B.bytes, B.returns, hml, by rw [hM1]; exact hown, B.notSynchronized, fun w hw => hts w (List.mem_cons_of_mem _ hw), hK, hi, hO⟩ hP va_S.rf (LH.entry hl)
section CallQ
variable {p : Program} {l : Launch} {e : Env} {R : Room} {s : State} {m : MethodId} {args : Array Value} {below : List Frame} {meth : Method} {c : Code} {H : Heap} {locs : List Loc} {Q : State → Prop} {pc : Nat} {ls : Array Slot} {rest st0 : List Value} {a : Array Value}
/-- behind a call -/
theorem cq {Q' : Option Value → mI → mL → Prop} {D : va_G} {ad : Nat → Nat} {ca : FieldType → ClassId} (hr : va_Run p l e R s m args below meth c H locs 0 0 0 0 (F0 m pc ls st0) rest (QQ D ad ca Q' a) (AA ad)) (hS : va_S (AA ad) s.heap H locs)
    (kk : ∀ (v : Option Value) (I : mI) (L : mL) (H1 : Heap) (locs1 : List Loc), Q' v I L → va_P D classesX (wld ad ca I L) H1 → va_S (AA ad) s.heap H1 locs1 → W p l e R s m args below meth c H1 locs1 0 0 Q (F0 m (pc + 3) ls ((v.map (rn ad)).toList ++ rest))) : W p l e R s m args below meth c H locs 0 0 Q (F0 m pc ls st0) := by
  intro T hT X
  obtain ⟨v, st₀, t, T', L0, h0, X', hL, e1, e2, ⟨⟨w, I', L', hv, hq, hb⟩, hz, hk⟩, st⟩ := hr T hT X
  cases hv
  rw [h0] at hz hk
  obtain ⟨t2, a1, b1⟩ := kk w I' L' T'.heap (locs ++ L0) hq (by rw [e1]; exact hb)
    ⟨Nat.le_trans hS.1 (by rw [e1]; exact hz), fun q h1 h2 => by rw [e1, hk q (Nat.lt_of_lt_of_le h1 hS.1) h2]; exact hS.2.1 q h1 h2, fun q hq => by
      rcases List.mem_append.mp hq with h | h
      · exact hS.2.2 q h
      · exact hL q h⟩ T' rfl X'
  exact ⟨t2, st t2 a1, b1⟩
end CallQ
section RCalls
variable {own : String} {cc : ByteArray} {nL d pc : Nat} {rt : Option FieldType} {lc : List (Option Value)} {st : List Value} {I : mI} {L : mL} {Q : Option Value → mI → mL → Prop}
/-- a call of a static method -/
theorem r_callS {index n d' : Nat} {y : MethodName} {M : mM} (As : List Value) {Q' : Option Value → mI → mL → Prop} (hM : MI y M n) (hw1 : Cond.methodLink own index y ∈ TB) (hw2 : Cond.static y ∈ TB) (hd : decode cc pc = .ok (.invokestatic index, 3)) (hdd : d' + 1 ≤ d) {st0 : List Value} (hst : st0 = As.reverse ++ st) (hn : As.length = n) (hr : (st.map fun v => v.category).sum ≤ 8) (hA : (entA As).length ≤ M.2.2.1)
    (hc : RR M d' 0 (entL M.2.2.1 As) [] I L Q') (k : ∀ v I L, Q' v I L → RR (own, cc, nL, rt) d (pc + 3) lc (v.toList ++ st) I L Q) : RR (own, cc, nL, rt) d pc lc st0 I L Q := by
  intro p l e s m args below meth c D ad ca H locs ls hC hP hS hl
  subst hst
  obtain ⟨hx, hb, -, hml, hown, -, hts, hK, hi, hO⟩ := id hC
  have hM' := hM
  obtain ⟨hM1, hM2, hM3, hM4, hM5, hM6⟩ := hM
  have hO' : Kons ad s H := hO.kept (fun a h1 h2 => hS.2.1 a h1 h2)
  have hcs := va_cwS (R := rmm d) (own := own) (index := index) (y := y) (bytes := M.2.1) (maxL := M.2.2.1) (ret := M.2.2.2) (ws := wsM y M) (rm := rmm d') (mc := 0) (ms := 0) n hts (fun w hw => by
    rcases List.mem_append.mp hw with h | h
    · rcases List.mem_cons.mp h with rfl | h
      · exact ⟨hw1, good_of_word (tb_good hw1)⟩
      · rcases List.mem_cons.mp h with rfl | h
        · exact ⟨hw2, good_of_word (tb_good hw2)⟩
        · rcases List.mem_cons.mp h with rfl | h
          · exact ⟨hM4, good_of_word (tb_good hM4)⟩
          · cases h
    · exact wsM_good hM3 w h) rfl rfl rfl hM5 ⟨hdd, by show 8 + (M.2.2.1 + 11) + 36 * d' ≤ 36 * d; omega⟩
  refine cq (va_runS (As := As.map (rn ad)) (rest := st.map (rn ad)) ⟨hx, hb, hml, hown, hts⟩ (RR.met (l := l) (D := D) (ad := ad) (ca := ca) hM' hi hA hc) hcs ⟨PP_blind, fun U hU hW => ⟨rfl, by rw [hU]; exact hP, va_K.moved hW.alike hK, by rw [hU]; exact hO'.warm hW⟩⟩ rfl (by rw [List.length_map]; exact hn) hl.1 (by show List.map (rn ad) (As.reverse ++ st) = _; rw [List.map_append, List.map_reverse]) (lv_room (by rw [sum_rn]; exact hr)) hd ⟨Nat.zero_le _, Nat.zero_le _⟩) hS (fun v I' L' H1 locs1 hq hP1 hS1 => ?_)
  have h2 := k v I' L' hq p l e s m args below meth c D ad ca H1 locs1 ls hC hP1 hS1 hl
  rw [List.map_append] at h2
  cases v with
  | none => exact h2
  | some w => exact h2
/-- a call of an instance method on the object a -/
theorem r_callV {index n d' a ci : Nat} {fs : List (Nat × Nat)} {T : u_T} {N : Nat} {y : MethodName} {M : mM} (As : List Value) {Q' : Option Value → mI → mL → Prop} (hM : MI y M n) (hw1 : Cond.methodLink own index y ∈ TB) (hw2 : Cond.instanceMethod y ∈ TB) (hw3 : Cond.selects y.cls y y ∈ TB) (hs : sh a = some (.inr (ci, fs))) (hcl : classesX[ci]? = some (y.cls, T, N)) (hd : decode cc pc = .ok (.invokevirtual index, 3)) (hdd : d' + 1 ≤ d) {st0 : List Value} (hst : st0 = As.reverse ++ .ref a :: st) (hn : As.length = n) (hr : (st.map fun v => v.category).sum ≤ 8) (hA : (entA (.ref a :: As)).length ≤ M.2.2.1)
    (hc : RR M d' 0 (entL M.2.2.1 (.ref a :: As)) [] I L Q') (k : ∀ v I L, Q' v I L → RR (own, cc, nL, rt) d (pc + 3) lc (v.toList ++ st) I L Q) : RR (own, cc, nL, rt) d pc lc st0 I L Q := by
  intro p l e s m args below meth c D ad ca H locs ls hC hP hS hl
  subst hst
  obtain ⟨hx, hb, -, hml, hown, -, hts, hK, hi, hO⟩ := id hC
  have hM' := hM
  obtain ⟨hM1, hM2, hM3, hM4, hM5, hM6⟩ := hM
  have hO' : Kons ad s H := hO.kept (fun a h1 h2 => hS.2.1 a h1 h2)
  have hcs := cwV (R := rmm d) (own := own) (C := y.cls) (index := index) (y := y) (bytes := M.2.1) (maxL := M.2.2.1) (ret := M.2.2.2) (ws := wsM y M) (rm := rmm d') (mc := 0) (ms := 0) n hts (fun w hw => by
    unfold wsV at hw
    rcases List.mem_append.mp hw with h | h
    · rcases List.mem_cons.mp h with rfl | h
      · exact ⟨hw1, good_of_word (tb_good hw1)⟩
      · rcases List.mem_cons.mp h with rfl | h
        · exact ⟨hw2, good_of_word (tb_good hw2)⟩
        · rcases List.mem_cons.mp h with rfl | h
          · exact ⟨hw3, good_of_word (tb_good hw3)⟩
          · rcases List.mem_cons.mp h with rfl | h
            · exact ⟨hM4, good_of_word (tb_good hM4)⟩
            · cases h
    · exact wsM_good hM3 w h) rfl rfl rfl ⟨rfl, hM5⟩ ⟨hdd, by show 8 + (M.2.2.1 + 11) + 36 * d' ≤ 36 * d; omega⟩
  refine cq (va_runV (b := ad a) (As := As.map (rn ad)) (rest := st.map (rn ad)) ⟨hx, hb, hml, hown, hts⟩ (RR.met (l := l) (D := D) (ad := ad) (ca := ca) hM' hi hA hc) hcs ⟨PP_blind, va_recv hK hP hcl (wld_get hs), fun U hU hW => ⟨rfl, by rw [hU]; exact hP, va_K.moved hW.alike hK, by rw [hU]; exact hO'.warm hW⟩⟩ rfl (by rw [List.length_map]; exact hn) hl.1 (by show List.map (rn ad) (As.reverse ++ .ref a :: st) = _; rw [List.map_append, List.map_reverse]; rfl) (lv_room (by rw [sum_rn]; exact hr)) hd ⟨Nat.zero_le _, Nat.zero_le _⟩) hS (fun v I' L' H1 locs1 hq hP1 hS1 => ?_)
  have h2 := k v I' L' hq p l e s m args below meth c D ad ca H1 locs1 ls hC hP1 hS1 hl
  rw [List.map_append] at h2
  cases v with
  | none => exact h2
  | some w => exact h2
/-- a call of a method of the text -/
theorem r_callT {index n d' : Nat} {y : MethodName} {M : mM} (As : List Value) {Q' : Option Value → mI → mL → Prop} (hM : MI y M n) (hw1 : Cond.methodLink own index y ∈ TB) (hw2 : Cond.instanceMethod y ∈ TB) (hw3 : Cond.selects y.cls y y ∈ TB) (hy : y.cls = RJ0) (hd : decode cc pc = .ok (.invokevirtual index, 3)) (hdd : d' + 1 ≤ d) {st0 : List Value} (hst : st0 = As.reverse ++ .ref 82 :: st) (hn : As.length = n) (hr : (st.map fun v => v.category).sum ≤ 8) (hA : (entA (.ref 82 :: As)).length ≤ M.2.2.1)
    (hc : RR M d' 0 (entL M.2.2.1 (.ref 82 :: As)) [] I L Q') (k : ∀ v I L, Q' v I L → RR (own, cc, nL, rt) d (pc + 3) lc (v.toList ++ st) I L Q) : RR (own, cc, nL, rt) d pc lc st0 I L Q := by
  intro p l e s m args below meth c D ad ca H locs ls hC hP hS hl
  subst hst
  obtain ⟨hx, hb, -, hml, hown, -, hts, hK, hi, hO⟩ := id hC
  have hM' := hM
  obtain ⟨hM1, hM2, hM3, hM4, hM5, hM6⟩ := hM
  have hO' : Kons ad s H := hO.kept (fun a h1 h2 => hS.2.1 a h1 h2)
  have hcs := cwV (R := rmm d) (own := own) (C := y.cls) (index := index) (y := y) (bytes := M.2.1) (maxL := M.2.2.1) (ret := M.2.2.2) (ws := wsM y M) (rm := rmm d') (mc := 0) (ms := 0) n hts (fun w hw => by
    unfold wsV at hw
    rcases List.mem_append.mp hw with h | h
    · rcases List.mem_cons.mp h with rfl | h
      · exact ⟨hw1, good_of_word (tb_good hw1)⟩
      · rcases List.mem_cons.mp h with rfl | h
        · exact ⟨hw2, good_of_word (tb_good hw2)⟩
        · rcases List.mem_cons.mp h with rfl | h
          · exact ⟨hw3, good_of_word (tb_good hw3)⟩
          · rcases List.mem_cons.mp h with rfl | h
            · exact ⟨hM4, good_of_word (tb_good hM4)⟩
            · cases h
    · exact wsM_good hM3 w h) rfl rfl rfl ⟨rfl, hM5⟩ ⟨hdd, by show 8 + (M.2.2.1 + 11) + 36 * d' ≤ 36 * d; omega⟩
  refine cq (va_runV (b := ad 82) (As := As.map (rn ad)) (rest := st.map (rn ad)) ⟨hx, hb, hml, hown, hts⟩ (RR.met (l := l) (D := D) (ad := ad) (ca := ca) hM' hi hA hc) hcs ⟨PP_blind, by rw [hy]; obtain ⟨cl, q1, q2, q3, -⟩ := hO'.2.2.2.1; exact ⟨cl, q1, q2, q3⟩, fun U hU hW => ⟨rfl, by rw [hU]; exact hP, va_K.moved hW.alike hK, by rw [hU]; exact hO'.warm hW⟩⟩ rfl (by rw [List.length_map]; exact hn) hl.1 (by show List.map (rn ad) (As.reverse ++ .ref 82 :: st) = _; rw [List.map_append, List.map_reverse]; rfl) (lv_room (by rw [sum_rn]; exact hr)) hd ⟨Nat.zero_le _, Nat.zero_le _⟩) hS (fun v I' L' H1 locs1 hq hP1 hS1 => ?_)
  have h2 := k v I' L' hq p l e s m args below meth c D ad ca H1 locs1 ls hC hP1 hS1 hl
  rw [List.map_append] at h2
  cases v with
  | none => exact h2
  | some w => exact h2
end RCalls
