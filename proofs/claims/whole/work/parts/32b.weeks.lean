/-! weeks -/
/-- where one goes -/
def GP (N : Nat → Prop) (w : Nat → Nat) (h g : Nat) : Prop := (g = h ∧ ∀ p, N p → w h ≤ w p) ∨ (N g ∧ w g < w h ∧ ∀ p, N p → w g < w p ∨ (w g = w p ∧ g ≤ p))
theorem GP.uniq {N : Nat → Prop} {w : Nat → Nat} {h g g' : Nat} (x : GP N w h g) (y : GP N w h g') : g = g' := by
  rcases x with ⟨e, x⟩ | ⟨x1, x2, x3⟩
  · rcases y with ⟨e', y⟩ | ⟨y1, y2, y3⟩
    · rw [e, e']
    · have := x g' y1; omega
  · rcases y with ⟨e', y⟩ | ⟨y1, y2, y3⟩
    · have := y g x1; omega
    · have h1 := x3 g' y1
      have h2 := y3 g x1
      omega
def glf (v : mV) (h m : Nat) (p best : Nat) : Nat := if p ≠ h ∧ rd v h p ≠ 0 ∧ wV v p m < wV v best m then p else best
def gl (v : mV) (h m : Nat) : Nat := fold (glf v h m) (v 0) 0 h
theorem gl_gp (v : mV) (h m : Nat) : GP (fun p => p < v 0 ∧ p ≠ h ∧ rd v h p ≠ 0) (fun p => wV v p m) h (gl v h m) := by
  refine fold_inv (P := fun k g => GP (fun p => p < k ∧ p ≠ h ∧ rd v h p ≠ 0) (fun p => wV v p m) h g) (fun k g hk hI => ?_) (Or.inl ⟨rfl, fun p hp => absurd hp.1 (by omega)⟩)
  unfold glf
  by_cases q : k ≠ h ∧ rd v h k ≠ 0 ∧ wV v k m < wV v g m
  · rw [if_pos q]
    refine Or.inr ⟨⟨by omega, q.1, q.2.1⟩, ?_, fun p hp => ?_⟩
    · rcases hI with ⟨e, _⟩ | ⟨_, x2, _⟩
      · rw [e] at q; exact q.2.2
      · have := q.2.2; show wV v k m < wV v h m; have x2' : wV v g m < wV v h m := x2; omega
    · show wV v k m < wV v p m ∨ (wV v k m = wV v p m ∧ k ≤ p)
      by_cases e : p = k
      · subst e; exact Or.inr ⟨rfl, Nat.le_refl _⟩
      · have hp' : p < k ∧ p ≠ h ∧ rd v h p ≠ 0 := ⟨by have := hp.1; omega, hp.2⟩
        rcases hI with ⟨e, x⟩ | ⟨_, _, x3⟩
        · have x' : wV v h m ≤ wV v p m := x p hp'
          rw [e] at q; have := q.2.2; omega
        · have x' : wV v g m < wV v p m ∨ (wV v g m = wV v p m ∧ g ≤ p) := x3 p hp'
          have := q.2.2; omega
  · rw [if_neg q]
    rcases hI with ⟨e, x⟩ | ⟨x1, x2, x3⟩
    · refine Or.inl ⟨e, fun p hp => ?_⟩
      show wV v h m ≤ wV v p m
      by_cases z : p = k
      · subst z
        apply Nat.le_of_not_lt
        intro y
        exact q ⟨hp.2.1, hp.2.2, by rw [e]; exact y⟩
      · exact x p ⟨by have := hp.1; omega, hp.2⟩
    · refine Or.inr ⟨⟨by have := x1.1; omega, x1.2⟩, x2, fun p hp => ?_⟩
      show wV v g m < wV v p m ∨ (wV v g m = wV v p m ∧ g ≤ p)
      by_cases z : p = k
      · subst z
        have : ¬ wV v p m < wV v g m := fun y => q ⟨hp.2.1, hp.2.2, y⟩
        have := x1.1
        omega
      · exact x3 p ⟨by have := hp.1; omega, hp.2⟩
theorem gl_lt {v : mV} {h m : Nat} (hh : h < v 0) : gl v h m < v 0 := by
  rcases gl_gp v h m with ⟨e, _⟩ | ⟨x, _⟩
  · rw [e]; exact hh
  · exact x.1
theorem rd_ne {v : mV} (hw : WF v) {a b : Nat} : rd v a b ≠ 0 ↔ ∃ r, r < v 1 ∧ En v r a b := by
  constructor
  · intro h
    apply Classical.byContradiction
    intro q
    exact h (rdk_none _ (fun r hr he => q ⟨r, hr, he⟩))
  · rintro ⟨r, hr, he⟩
    rw [show rd v a b = v (76 + r) + 1 from rdk_of hw he (v 1) (Nat.le_refl _) hr]
    omega
section Weeks
variable {I J : mI} {L : mL} {v : mV}
theorem lighter_eq (hw : WF v) (hc : CH I 0 v) {k : Nat} (hk : k < v 4) : f_X7_lighterParish_1 I L (nI k) = some (nI (gl v (v (129 + k)) (v (123 + k)))) := by
  have sz := hw.sz
  have pb := hw.personb k hk
  generalize eh : v (129 + k) = h at *
  generalize em : v (123 + k) = m at *
  have wl := fun p (hp : p < v 0) => wV_le hw hp (m := m)
  unfold f_X7_lighterParish_1
  rw [ck_nI (by omega) (by omega), lt_eq, c_nI (by omega), hc.rat_ hw k hk, eh, ck_nI (by omega) (by omega), hc.rheavy hw k hk, em, weightAt_eq hw hc pb.2 (by omega), Option.bind_some]
  obtain ⟨m', g, ⟨i1, i2⟩, hF⟩ := loop_inv (F := fun f r (g : Nat) => f_X7_lighterParish_1_l25 I L f (nI k) (nI h) (nI g) (nI (wV v g m)) (nI r)) (n := v 1)
    (Inv := fun r g => g < v 0 ∧ GP (fun p => ∃ s, s < r ∧ En v s h p) (fun p => wV v p m) h g)
    (fun f r g hr hI => by
      obtain ⟨i1, i2⟩ := hI
      have rb := hw.roadb r hr
      have wg := wl g i1
      have oth : ∀ q, q < v 0 → q ≠ h → En v r h q → (∀ p, En v r h p → p = q) → f_X3_otherEnd_2 I L (nI r) (nI h) = some (nI q) → ∃ g', (g' < v 0 ∧ GP (fun p => ∃ s, s < r + 1 ∧ En v s h p) (fun p => wV v p m) h g') ∧ f_X7_lighterParish_1_l25 I L (f + 1) (nI k) (nI h) (nI g) (nI (wV v g m)) (nI r) = f_X7_lighterParish_1_l25 I L f (nI k) (nI h) (nI g') (nI (wV v g' m)) (nI (r + 1)) := by
        intro q hq hqh hE hU hO
        have wq := wl q hq
        have nb : ∀ p, (∃ s, s < r + 1 ∧ En v s h p) → (∃ s, s < r ∧ En v s h p) ∨ p = q := by
          rintro p ⟨s, hs, he⟩
          by_cases e : s = r
          · subst e; exact Or.inr (hU p he)
          · exact Or.inl ⟨s, by omega, he⟩
        have mono : ∀ p, (∃ s, s < r ∧ En v s h p) → ∃ s, s < r + 1 ∧ En v s h p := fun p ⟨s, hs, he⟩ => ⟨s, by omega, he⟩
        have eF : f_X7_lighterParish_1_l25 I L (f + 1) (nI k) (nI h) (nI g) (nI (wV v g m)) (nI r) = if wV v q m < wV v g m then f_X7_lighterParish_1_l25 I L f (nI k) (nI h) (nI q) (nI (wV v q m)) (nI (r + 1)) else if wV v q m = wV v g m then (if g = h then f_X7_lighterParish_1_l25 I L f (nI k) (nI h) (nI g) (nI (wV v g m)) (nI (r + 1)) else if g ≤ q then f_X7_lighterParish_1_l25 I L f (nI k) (nI h) (nI g) (nI (wV v g m)) (nI (r + 1)) else f_X7_lighterParish_1_l25 I L f (nI k) (nI h) (nI q) (nI (wV v q m)) (nI (r + 1))) else f_X7_lighterParish_1_l25 I L f (nI k) (nI h) (nI g) (nI (wV v g m)) (nI (r + 1)) := by
          rw [f_X7_lighterParish_1_l25, hc.c1, if_neg (by rw [le_nI (by omega) (by omega)]; omega), hO, Option.bind_some, if_neg (nI_ge0' (by omega)), ck_nI (by omega) (by omega), c_nI (by omega), hc.rheavy hw k hk, em, weightAt_eq hw hc hq (by omega), Option.bind_some]
          simp only [lt_eq, inc_nI, lt_n (show wV v q m < 2147483648 by omega) (show wV v g m < 2147483648 by omega), eq_n (show wV v q m < 2147483648 by omega) (show wV v g m < 2147483648 by omega), eq_n (show g < 2147483648 by omega) (show h < 2147483648 by omega), le_n (show g < 2147483648 by omega) (show q < 2147483648 by omega)]
        rw [eF]
        have take : wV v q m < wV v g m ∨ (wV v q m = wV v g m ∧ g ≠ h ∧ q < g) → GP (fun p => ∃ s, s < r + 1 ∧ En v s h p) (fun p => wV v p m) h q := by
          intro hh
          refine Or.inr ⟨⟨r, by omega, hE⟩, ?_, fun p hp => ?_⟩
          · show wV v q m < wV v h m
            rcases i2 with ⟨e, _⟩ | ⟨_, x2, _⟩
            · rw [e] at hh; omega
            · have x2' : wV v g m < wV v h m := x2; omega
          · show wV v q m < wV v p m ∨ (wV v q m = wV v p m ∧ q ≤ p)
            rcases nb p hp with z | z
            · rcases i2 with ⟨e, x⟩ | ⟨_, _, x3⟩
              · have x' : wV v h m ≤ wV v p m := x p z
                rw [e] at hh; omega
              · have x' : wV v g m < wV v p m ∨ (wV v g m = wV v p m ∧ g ≤ p) := x3 p z
                omega
            · rw [z]; exact Or.inr ⟨rfl, Nat.le_refl _⟩
        have keep : ¬ (wV v q m < wV v g m ∨ (wV v q m = wV v g m ∧ g ≠ h ∧ q < g)) → GP (fun p => ∃ s, s < r + 1 ∧ En v s h p) (fun p => wV v p m) h g := by
          intro hh
          rcases i2 with ⟨e, x⟩ | ⟨x1, x2, x3⟩
          · refine Or.inl ⟨e, fun p hp => ?_⟩
            show wV v h m ≤ wV v p m
            rcases nb p hp with z | z
            · exact x p z
            · rw [z]; rw [e] at hh; omega
          · refine Or.inr ⟨mono g x1, x2, fun p hp => ?_⟩
            show wV v g m < wV v p m ∨ (wV v g m = wV v p m ∧ g ≤ p)
            rcases nb p hp with z | z
            · exact x3 p z
            · rw [z]
              have x2' : wV v g m < wV v h m := x2
              have : g ≠ h := fun e => by rw [e] at x2'; omega
              omega
        by_cases z1 : wV v q m < wV v g m
        · exact ⟨q, ⟨hq, take (Or.inl z1)⟩, by rw [if_pos z1]⟩
        · rw [if_neg z1]
          by_cases z2 : wV v q m = wV v g m
          · rw [if_pos z2]
            by_cases z3 : g = h
            · exact ⟨g, ⟨i1, keep (by omega)⟩, by rw [if_pos z3]⟩
            · rw [if_neg z3]
              by_cases z4 : g ≤ q
              · exact ⟨g, ⟨i1, keep (by omega)⟩, by rw [if_pos z4]⟩
              · exact ⟨q, ⟨hq, take (by omega)⟩, by rw [if_neg z4]⟩
          · exact ⟨g, ⟨i1, keep (by omega)⟩, by rw [if_neg z2]⟩
      have oe := otherEnd_eq (L := L) hw hc pb.2 hr
      show ∃ g', _ ∧ f_X7_lighterParish_1_l25 I L (f + 1) (nI k) (nI h) (nI g) (nI (wV v g m)) (nI r) = _
      by_cases c1 : v (46 + r) = h
      · rw [if_pos c1] at oe
        exact oth (v (61 + r)) rb.2.1 (by omega) (Or.inl ⟨c1, rfl⟩) (fun p hp => by unfold En at hp; omega) oe
      · by_cases c2 : v (61 + r) = h
        · rw [if_neg c1, if_pos c2] at oe
          exact oth (v (46 + r)) (by omega) c1 (Or.inr ⟨rfl, c2⟩) (fun p hp => by unfold En at hp; omega) oe
        · rw [if_neg c1, if_neg c2] at oe
          have same : ∀ p, (∃ s, s < r + 1 ∧ En v s h p) ↔ ∃ s, s < r ∧ En v s h p := by
            intro p
            constructor
            · rintro ⟨s, hs, he⟩
              by_cases e : s = r
              · subst e; unfold En at he; omega
              · exact ⟨s, by omega, he⟩
            · rintro ⟨s, hs, he⟩; exact ⟨s, by omega, he⟩
          refine ⟨g, ⟨i1, ?_⟩, ?_⟩
          · rcases i2 with ⟨e, x⟩ | ⟨x1, x2, x3⟩
            · exact Or.inl ⟨e, fun p hp => x p ((same p).mp hp)⟩
            · exact Or.inr ⟨(same g).mpr x1, x2, fun p hp => x3 p ((same p).mp hp)⟩
          · rw [f_X7_lighterParish_1_l25, hc.c1, if_neg (by rw [le_nI (by omega) (by omega)]; omega), oe, Option.bind_some, if_pos (by decide), lt_eq, inc_nI])
    (v 1) 0 h fuel (by omega) ⟨pb.2, Or.inl ⟨rfl, fun p ⟨s, hs, _⟩ => absurd hs (by omega)⟩⟩ (fuel_gt (by omega))
  have hF' : f_X7_lighterParish_1_l25 I L fuel (nI k) (nI h) (nI h) (nI (wV v h m)) 0 = f_X7_lighterParish_1_l25 I L (m' + 1) (nI k) (nI h) (nI g) (nI (wV v g m)) (nI (v 1)) := hF
  have ge : g = gl v h m := by
    refine GP.uniq i2 ?_
    have e : ∀ p, (p < v 0 ∧ p ≠ h ∧ rd v h p ≠ 0) ↔ ∃ s, s < v 1 ∧ En v s h p := by
      intro p
      rw [rd_ne hw]
      constructor
      · intro z; exact z.2.2
      · rintro ⟨s, hs, he⟩
        have rb := hw.roadb s hs
        refine ⟨?_, ?_, s, hs, he⟩
        · unfold En at he; omega
        · unfold En at he; omega
    rcases gl_gp v h m with ⟨e1, x⟩ | ⟨x1, x2, x3⟩
    · exact Or.inl ⟨e1, fun p hp => x p ((e p).mpr hp)⟩
    · exact Or.inr ⟨(e _).mp x1, x2, fun p hp => x3 p ((e p).mpr hp)⟩
  rw [hF', f_X7_lighterParish_1_l25, hc.c1, if_pos (by rw [le_nI (by omega) (by omega)]; omega), ge]
theorem roadOf_rd (hw : WF v) (hm : MH I 68 v) {a b : Nat} (ha : a < v 0) (hb : b < v 0) : ∃ x, f_X11_roadOf_67 I L (nI a) (nI b) = some x ∧ (x < 0 ↔ rd v a b = 0) := by
  have sz := hw.sz
  obtain ⟨x, x1, x2⟩ := roadOf_eq (L := L) hm (by omega) (fun r hr => by have := hw.roadb r hr; omega) (a := a) (b := b) (by omega) (by omega)
  refine ⟨x, x1, ?_⟩
  rcases x2 with ⟨rfl, x3⟩ | ⟨r, x3, x4, rfl⟩
  · exact ⟨fun _ => rdk_none _ x3, fun _ => by decide⟩
  · constructor
    · intro z; exact absurd z (nI_ge0' (by omega))
    · intro z; exact absurd z ((rd_ne hw).mpr ⟨r, x3, x4⟩)
theorem goes_eq (hw : WF v) (hm : MH I 68 v) {k : Nat} (hk : k < v 4) : f_X11_goes_67 I L (nI k) = some (nI (if gl v (v (129 + k)) (v (123 + k)) = v (129 + k) then 0 else 1), uI I 68 (129 + k) (nI (gl v (v (129 + k)) (v (123 + k)))), L) := by
  have sz := hw.sz
  have pb := hw.personb k hk
  unfold f_X11_goes_67
  rw [show (129 : Int32) + nI k = nI (129 + k) from n_add 129 k, show (123 : Int32) + nI k = nI (123 + k) from n_add 123 k, ck_nI (by omega) (by omega), lt_eq, c_nI (by omega), hm.n _ (by omega), ck_nI (by omega) (by omega), lt_eq, c_nI (by omega), hm.n _ (by omega)]
  generalize eh : v (129 + k) = h at *
  generalize em : v (123 + k) = m at *
  have glt : gl v h m < v 0 := gl_lt pb.2
  refine (loop_to (F := fun f p (g : Nat) => f_X11_goes_67_l27 f (nI k) (nI h) (nI m) (nI g) (nI p) I L) (f := glf v h m) (out := fun g => some (nI (if g = h then 0 else 1), uI I 68 (129 + k) (nI g), L)) (n := v 0) (Inv := fun p g => g < v 0) (fun f p g hp hg => ?_) (fun p g hp hg => by unfold glf; split <;> omega) (fun f g hg => ?_) (v 0) 0 h fuel (by omega) pb.2 (fuel_gt (by omega))).1
  · have b58 : f_X11_goes_67_b58 I L (f_X11_goes_67_l27 f) (nI k) (nI h) (nI m) (nI g) (nI p) = f_X11_goes_67_l27 f (nI k) (nI h) (nI m) (nI g) (nI (p + 1)) I L := by
      unfold f_X11_goes_67_b58 f_X11_goes_67_b59
      rw [if_pos rfl, lt_eq, inc_nI]
    have w1 := wV_le hw hp (m := m)
    have w2 := wV_le hw hg (m := m)
    show f_X11_goes_67_l27 (f + 1) (nI k) (nI h) (nI m) (nI g) (nI p) I L = _
    rw [f_X11_goes_67_l27, cl0, hm.n 0 (by omega), if_neg (by rw [le_nI (by omega) (by omega)]; omega), b58]
    unfold glf
    by_cases c1 : p = h
    · rw [if_pos (by rw [c1]), if_neg (fun z => z.1 c1)]
    · rw [if_neg (fun z => c1 ((eq_nI (by omega) (by omega)).mp z))]
      obtain ⟨x, x1, x2⟩ := roadOf_rd (L := L) hw hm pb.2 hp
      rw [x1, Option.bind_some]
      by_cases c2 : rd v h p = 0
      · rw [if_pos (x2.mpr c2), if_neg (fun z => z.2.1 c2)]
      · rw [if_neg (fun z => c2 (x2.mp z))]
        unfold f_X11_goes_67_b59
        rw [if_neg (by decide), mweight_eq hw hm hp (by omega), Option.bind_some, mweight_eq hw hm hg (by omega), Option.bind_some]
        simp only [lt_eq, inc_nI]
        by_cases c3 : wV v p m < wV v g m
        · rw [if_neg (by rw [le_nI (by omega) (by omega)]; omega), if_pos ⟨c1, c2, c3⟩]
        · rw [if_pos (by rw [le_nI (by omega) (by omega)]; omega), if_neg (fun z => c3 z.2.2)]
  · show f_X11_goes_67_l27 (f + 1) (nI k) (nI h) (nI m) (nI g) (nI (v 0)) I L = _
    rw [f_X11_goes_67_l27, cl0, hm.n 0 (by omega), if_pos (by rw [le_nI (by omega) (by omega)]; omega), show (129 : Int32) + nI k = nI (129 + k) from n_add 129 k, ck_nI (by omega) (by omega), lt_eq, c_nI (by omega)]
    by_cases e : g = h
    · rw [if_pos (by rw [e]), if_pos e]; rfl
    · rw [if_neg (fun z => e ((eq_nI (by omega) (by omega)).mp z)), if_neg e]; rfl
end Weeks
