/-! net, market, take -/
theorem Rel.scr {I J : mI} {L : mL} (h : Rel I L) (hf : ∀ k, k < 48 ∨ (67 ≤ k ∧ k ≤ 73) → J k = I k) : Rel J L := by
  obtain ⟨⟨v, hw, hm, hc⟩, h2⟩ := h
  exact ⟨⟨v, hw, hm.frame (hf 68 (by omega)), hc.frame (fun k a b => hf k (by omega))⟩, h2.frame (fun k hk => hf k (by omega))⟩
/-- THE least costs -/
noncomputable def DD (v : mV) (ca m lg : Nat) : Nat → Nat → Nat := @Classical.epsilon (Nat → Nat → Nat) ⟨fun _ _ => 0⟩ (fun D => FWv v ca m lg D)
theorem DD_ok {v : mV} (hw : WF v) {ca m lg : Nat} (hca : ca < v 2) (hm9 : m ≤ 99) (hlg : lg < 256) : FWv v ca m lg (DD v ca m lg) := by
  obtain ⟨J, D, -, -, -, h⟩ := layWays_eq (I := fun _ j => nI (v j)) (L := fun _ _ => 0) hw (fun j _ => rfl) hca hm9 hlg
  exact Classical.epsilon_spec (p := fun D => FWv v ca m lg D) ⟨D, h⟩
/-- the market out of nets -/
def mkf (N : Nat → Int) (D : Nat → Nat) : Nat → Option Nat
  | 0 => none
  | k + 1 => if D k < 100000000 then (match mkf N D k with | none => some k | some p => if N k ≤ N p then some p else some k) else mkf N D k
theorem mkf_spec (N : Nat → Int) (D : Nat → Nat) : ∀ n, (mkf N D n = none ∧ ∀ b, b < n → ¬ D b < 100000000) ∨ ∃ p, mkf N D n = some p ∧ BM n (fun b => D b < 100000000) N p := by
  intro n
  induction n with
  | zero => exact Or.inl ⟨rfl, fun b hb => absurd hb (by omega)⟩
  | succ n ih =>
    have e : mkf N D (n + 1) = if D n < 100000000 then (match mkf N D n with | none => some n | some p => if N n ≤ N p then some p else some n) else mkf N D n := rfl
    rw [e]
    by_cases q : D n < 100000000
    · rw [if_pos q]
      right
      rcases ih with ⟨h1, h2⟩ | ⟨p, h1, h2, h3, h4⟩
      · rw [h1]
        refine ⟨n, rfl, by omega, q, fun b hb hR => ?_⟩
        by_cases z : b = n
        · subst z; exact Or.inr ⟨rfl, Nat.le_refl _⟩
        · exact absurd hR (h2 b (by omega))
      · rw [h1]
        show ∃ p', (if N n ≤ N p then some p else some n) = some p' ∧ _
        by_cases y : N n ≤ N p
        · rw [if_pos y]
          refine ⟨p, rfl, by omega, h3, fun b hb hR => ?_⟩
          by_cases z : b = n
          · subst z; omega
          · exact h4 b (by omega) hR
        · rw [if_neg y]
          refine ⟨n, rfl, by omega, q, fun b hb hR => ?_⟩
          by_cases z : b = n
          · subst z; exact Or.inr ⟨rfl, Nat.le_refl _⟩
          · have := h4 b (by omega) hR; omega
    · rw [if_neg q]
      rcases ih with ⟨h1, h2⟩ | ⟨p, h1, h2, h3, h4⟩
      · refine Or.inl ⟨h1, fun b hb => ?_⟩
        by_cases z : b = n
        · subst z; exact q
        · exact h2 b (by omega)
      · refine Or.inr ⟨p, h1, by omega, h3, fun b hb hR => ?_⟩
        by_cases z : b = n
        · subst z; exact absurd hR q
        · exact h4 b (by omega) hR
theorem mkf_of {N : Nat → Int} {D : Nat → Nat} {n p : Nat} (h : BM n (fun b => D b < 100000000) N p) : mkf N D n = some p := by
  rcases mkf_spec N D n with ⟨-, h2⟩ | ⟨q, h1, h2⟩
  · exact absurd h.2.1 (h2 p h.1)
  · rw [h1, h.uniq h2]
theorem mkf_none {N : Nat → Int} {D : Nat → Nat} {n : Nat} (h : ∀ b, b < n → ¬ D b < 100000000) : mkf N D n = none := by
  rcases mkf_spec N D n with ⟨h1, -⟩ | ⟨q, -, h2⟩
  · exact h1
  · exact absurd h2.2.1 (h q h2.1)
def mki (x : Int32) : Option Nat → Int32
  | none => x
  | some p => nI p
/-- nets of a good, its market -/
noncomputable def ntv (v : mV) (ca lg g : Nat) : Nat → Int := nt (v (105 + g)) (fun p => wV v p (v (99 + g))) (DD v ca (v (99 + g)) lg) (v (111 + g))
noncomputable def mkv (v : mV) (ca lg g : Nat) : Option Nat := mkf (ntv v ca lg g) (DD v ca (v (99 + g)) lg (v (111 + g))) (v 0)
theorem mkv_lt {v : mV} {ca lg g p : Nat} (h : mkv v ca lg g = some p) : p < v 0 ∧ DD v ca (v (99 + g)) lg (v (111 + g)) p < 100000000 := by
  rcases mkf_spec (ntv v ca lg g) (DD v ca (v (99 + g)) lg (v (111 + g))) (v 0) with ⟨h1, -⟩ | ⟨q, h1, h2⟩
  · unfold mkv at h; rw [h1] at h; cases h
  · unfold mkv at h; rw [h1] at h; cases h; exact ⟨h2.1, h2.2.1⟩
/-- the routes with a cart in a league -/
def HR (J : mI) (v : mV) (ca lg : Nat) : Prop := J 48 8 = nI (v 0) ∧ J 48 9 = nI (v (91 + ca)) ∧ J 48 10 = nI (v (95 + ca)) ∧ J 48 11 = nI lg ∧ ∀ a b, a < 8 → b < 8 → J 49 (a * 8 + b) = nI (rd v a b) - 1
section Market
variable {I J : mI} {L : mL} {v : mV}
theorem HR.frame {ca lg : Nat} (h : HR I v ca lg) (h1 : ∀ j, j ≤ 11 → J 48 j = I 48 j) (h2 : J 49 = I 49) : HR J v ca lg := by
  obtain ⟨a, b, c, d, e⟩ := h
  refine ⟨by rw [h1 8 (by omega)]; exact a, by rw [h1 9 (by omega)]; exact b, by rw [h1 10 (by omega)]; exact c, by rw [h1 11 (by omega)]; exact d, fun x y hx hy => by rw [h2]; exact e x y hx hy⟩
theorem HR.rt {ca lg : Nat} (h : HR I v ca lg) (hw : WF v) {W : Nat → Nat} (hW : ∀ a, a < v 0 → I 51 a = nI (W a)) : RT I (v 0) (v (91 + ca)) (v (95 + ca)) lg (rd v) W := by
  have sz := hw.sz
  exact ⟨h.1, h.2.1, h.2.2.1, h.2.2.2.1, fun a b ha hb => h.2.2.2.2 a b (by omega) (by omega), hW⟩
theorem harness_hr (hw : WF v) (hc : CH I 0 v) {ca : Nat} (hca : ca < v 2) : ∃ J, f_X5_harness_48 I L (nI ca) = some (J, L) ∧ (∀ k, k ≠ 48 → k ≠ 49 → J k = I k) ∧ HR J v ca 0 := by
  obtain ⟨J, h1, h2, h3, h4, h5, h6, h7⟩ := harness_eq (L := L) hw hc hca
  exact ⟨J, h1, h2, h3, h4, h5, h6, h7⟩
/-- a good's weights are laid -/
theorem weigh_hr (hw : WF v) (hc : CH I 0 v) {ca lg m : Nat} (hr : HR I v ca lg) (hm : m ≤ 99) : ∃ J, f_X5_weigh_48 I L (nI m) = some (J, L) ∧ (∀ k, k ≠ 51 → J k = I k) ∧ HR J v ca lg ∧ ∀ a, a < v 0 → J 51 a = nI (wV v a m) := by
  obtain ⟨J, h1, h2, h3⟩ := weigh_eq (L := L) hw hc hm hr.1
  exact ⟨J, h1, h2, hr.frame (fun j _ => by rw [h2 48 (by omega)]) (h2 49 (by omega)), h3⟩
/-- the class's best place of a good, its weights laid -/
theorem cbest (hw : WF v) {ca lg g : Nat} (hca : ca < v 2) (hg : g < v 3) (hlg : lg < 256) (hr : HR I v ca lg) (hW : ∀ a, a < v 0 → I 51 a = nI (wV v a (v (99 + g)))) : ∃ J, f_X5_bestPlace_48 I L (nI (v (111 + g))) (nI (v (105 + g))) = some (mki (-1) (mkv v ca lg g), J, L) ∧ RF I J ∧ ∀ p, mkv v ca lg g = some p → (J 48 13).toInt = ntv v ca lg g p := by
  have gb := hw.goodb g hg
  obtain ⟨r, J, h1, h2, h3⟩ := best_eq (L := L) (hr.rt hw hW) (hw.rb hca gb.1.2 hlg) gb.2.2.1 gb.2.1.2 (DD_ok hw hca gb.1.2 hlg)
  rcases h3 with ⟨rfl, h4⟩ | ⟨p, rfl, h4, h5⟩
  · have e : mkv v ca lg g = none := mkf_none h4
    exact ⟨J, by rw [h1, e]; rfl, h2, fun p hp => by rw [e] at hp; cases hp⟩
  · have e : mkv v ca lg g = some p := mkf_of h4
    exact ⟨J, by rw [h1, e]; rfl, h2, fun q hq => by rw [e] at hq; cases hq; exact h5⟩
theorem cmarket (hw : WF v) (hc : CH I 0 v) {ca lg g : Nat} (hca : ca < v 2) (hg : g < v 3) (hlg : lg < 256) (hr : HR I v ca lg) : ∃ J, f_X5_marketOf_48 I L (nI g) = some (mki (-1) (mkv v ca lg g), J, L) ∧ (∀ k, k < 48 ∨ 66 < k → J k = I k) ∧ HR J v ca lg := by
  have sz := hw.sz
  have gb := hw.goodb g hg
  obtain ⟨J1, h1, h2, h3, h4⟩ := weigh_hr (L := L) hw hc hr gb.1.2
  obtain ⟨J2, g1, g2, -⟩ := cbest (L := L) hw hca hg hlg h3 h4
  refine ⟨J2, ?_, fun k hk => by rw [g2.1 k (by omega) (by omega), h2 k (by omega)], h3.frame g2.2 (g2.1 49 (by omega) (by omega))⟩
  have hc1 : CH J1 0 v := hc.frame (fun k a b => h2 k (by omega))
  unfold f_X5_marketOf_48
  rw [ck_nI (by omega) (by omega), c_nI (by omega), hc.rmass hw g hg, h1, bndV_some, ck_nI (by omega) (by omega), ck_nI (by omega) (by omega), hc1.rwhere hw g hg, hc1.rprice hw g hg, g1, bndI_some]
/-- the reference's net -/
theorem netOf_eq (hw : WF v) (hm : MH I 68 v) {D : Nat → Nat → Nat} (hD : ∀ x y, x < v 0 → y < v 0 → I 75 (8 * x + y) = nI (D x y)) (hb : ∀ x y, x < v 0 → y < v 0 → D x y ≤ 100000000) {g p : Nat} (hg : g < v 3) (hp : p < v 0) : f_X11_netOf_67 I L (nI g) (nI p) = some (if D (v (111 + g)) p < 100000000 then nI (v (105 + g) * wV v p (v (99 + g))) - nI (D (v (111 + g)) p) else -100000000) := by
  have sz := hw.sz
  have gb := hw.goodb g hg
  have h1 := hD _ p gb.2.2.1 hp
  have h2 := hb _ p gb.2.2.1 hp
  unfold f_X11_netOf_67
  rw [show (111 : Int32) + nI g = nI (111 + g) from n_add 111 g, c_nI (by omega), hm.n _ (by omega), show (8 : Int32) * nI (v (111 + g)) + nI p = nI (8 * v (111 + g) + p) by rw [show (8 : Int32) = nI 8 from rfl, n_mul, n_add], c_nI (by omega), h1, ck_nI (by omega) (by omega), ck_nI (by omega) (by omega), lt_eq]
  rw [show (105 : Int32) + nI g = nI (105 + g) from n_add 105 g, show (99 : Int32) + nI g = nI (99 + g) from n_add 99 g, c_nI (by omega), c_nI (by omega), ck_nI (by omega) (by omega), ck_nI (by omega) (by omega), hm.n _ (by omega), hm.n _ (by omega), mweight_eq hw hm hp (by omega), Option.bind_some, n_mul, show (100000000 : Int32) = nI 100000000 from rfl]
  by_cases q : D (v (111 + g)) p < 100000000
  · rw [if_pos q, if_pos (by rw [lt_nI (by omega) (by omega)]; exact q)]
  · rw [if_neg q, if_neg (by rw [lt_nI (by omega) (by omega)]; exact q)]
/-- its rows hold the least costs -/
def MD (J : mI) (v : mV) (ca m lg : Nat) : Prop := ∀ x y, x < v 0 → y < v 0 → J 75 (8 * x + y) = nI (DD v ca m lg x y)
theorem layWays_dd {ca m lg : Nat} (hw : WF v) (hm : MH I 68 v) (hca : ca < v 2) (hm9 : m ≤ 99) (hlg : lg < 256) : ∃ J, f_X11_layWays_67 I L (nI ca) (nI m) (nI lg) = some (J, L) ∧ (∀ k, k ≠ 75 → J k = I k) ∧ MD J v ca m lg := by
  obtain ⟨J, D, h1, h2, h3, h4⟩ := layWays_eq (L := L) hw hm hca hm9 hlg
  exact ⟨J, h1, h2, fun x y hx hy => by rw [h3 x y hx hy, FW.uniq h4 (DD_ok hw hca hm9 hlg) hw.1 x y hx hy]⟩
theorem DD_le (hw : WF v) {ca m lg : Nat} (hca : ca < v 2) (hm9 : m ≤ 99) (hlg : lg < 256) {x y : Nat} (hx : x < v 0) (hy : y < v 0) : DD v ca m lg x y = 100000000 ∨ DD v ca m lg x y ≤ 256000 := by
  have h1 := (DD_ok hw hca hm9 hlg).1 x y hx hy
  have hp : 2 ^ v 0 ≤ 2 ^ 8 := Nat.pow_le_pow_right (by omega) hw.1
  omega
theorem net_t (hw : WF v) {ca lg g p : Nat} (hca : ca < v 2) (hg : g < v 3) (hlg : lg < 256) (hp : p < v 0) (hR : DD v ca (v (99 + g)) lg (v (111 + g)) p < 100000000) : (nI (v (105 + g) * wV v p (v (99 + g))) - nI (DD v ca (v (99 + g)) lg (v (111 + g)) p)).toInt = ntv v ca lg g p ∧ -256000 ≤ ntv v ca lg g p := by
  have gb := hw.goodb g hg
  have h1 := DD_le hw hca gb.1.2 hlg gb.2.2.1 hp
  have h2 := wV_le hw hp (m := v (99 + g))
  have h3 : v (105 + g) * wV v p (v (99 + g)) ≤ 9 * 990 := Nat.mul_le_mul gb.2.1.2 (by omega)
  have e : ntv v ca lg g p = ((v (105 + g) * wV v p (v (99 + g)) : Nat) : Int) - (DD v ca (v (99 + g)) lg (v (111 + g)) p : Nat) := rfl
  rw [sub_t (by omega) (by omega), e]
  exact ⟨rfl, by omega⟩
theorem netOf_dd (hw : WF v) (hm : MH I 68 v) {ca lg g p : Nat} (hca : ca < v 2) (hg : g < v 3) (hlg : lg < 256) (hp : p < v 0) (hD : MD I v ca (v (99 + g)) lg) : f_X11_netOf_67 I L (nI g) (nI p) = some (if DD v ca (v (99 + g)) lg (v (111 + g)) p < 100000000 then nI (v (105 + g) * wV v p (v (99 + g))) - nI (DD v ca (v (99 + g)) lg (v (111 + g)) p) else -100000000) :=
  netOf_eq hw hm hD (fun x y hx hy => by have := DD_le hw hca (hw.goodb g hg).1.2 hlg hx hy; omega) hg hp
theorem mmarket (hw : WF v) (hm : MH I 68 v) {ca lg g : Nat} (hca : ca < v 2) (hg : g < v 3) (hlg : lg < 256) : ∃ J, f_X11_marketOf_67 I L (nI g) (nI ca) (nI lg) = some (mki (-4) (mkv v ca lg g), J, L) ∧ (∀ k, k ≠ 75 → J k = I k) ∧ MD J v ca (v (99 + g)) lg := by
  have sz := hw.sz
  have gb := hw.goodb g hg
  obtain ⟨J, h1, h2, h3⟩ := layWays_dd (L := L) hw hm hca gb.1.2 hlg
  have hmJ : MH J 68 v := hm.frame (h2 68 (by omega))
  refine ⟨J, ?_, h2, h3⟩
  unfold f_X11_marketOf_67
  rw [show (99 : Int32) + nI g = nI (99 + g) from n_add 99 g, ck_nI (by omega) (by omega), c_nI (by omega), hm.n _ (by omega), h1, bndV_some]
  have key : ∀ (d k f : Nat), k + d = v 0 → d < f → f_X11_marketOf_67_l22 f (nI g) (mki (-4) (mkf (ntv v ca lg g) (DD v ca (v (99 + g)) lg (v (111 + g))) k)) (nI k) J L = some (mki (-4) (mkv v ca lg g), J, L) := by
    intro d
    induction d with
    | zero =>
      intro k f hk hf
      obtain ⟨f, rfl⟩ : ∃ j, f = j + 1 := ⟨f - 1, by omega⟩
      have : k = v 0 := by omega
      subst this
      rw [f_X11_marketOf_67_l22, cl0, hmJ.n 0 (by omega), if_pos (by rw [le_nI (by omega) (by omega)]; omega)]
      rfl
    | succ d ih =>
      intro k f hk hf
      obtain ⟨f, rfl⟩ : ∃ j, f = j + 1 := ⟨f - 1, by omega⟩
      have hkn : k < v 0 := by omega
      have ih' := ih (k + 1) f (by omega) (by omega)
      have e : mkf (ntv v ca lg g) (DD v ca (v (99 + g)) lg (v (111 + g))) (k + 1) = if DD v ca (v (99 + g)) lg (v (111 + g)) k < 100000000 then (match mkf (ntv v ca lg g) (DD v ca (v (99 + g)) lg (v (111 + g))) k with | none => some k | some p => if ntv v ca lg g k ≤ ntv v ca lg g p then some p else some k) else mkf (ntv v ca lg g) (DD v ca (v (99 + g)) lg (v (111 + g))) k := rfl
      rw [e] at ih'
      rw [f_X11_marketOf_67_l22, cl0, hmJ.n 0 (by omega), if_neg (by rw [le_nI (by omega) (by omega)]; omega), netOf_dd hw hmJ hca hg hlg hkn h3, Option.bind_some]
      have em : ((-100000000 : Int32)).toInt = -100000000 := by decide
      by_cases q : DD v ca (v (99 + g)) lg (v (111 + g)) k < 100000000
      · rw [if_pos q] at ih'
        have nk := net_t hw hca hg hlg hkn q
        rw [if_pos q, if_neg (by rw [Int32.le_iff_toInt_le, nk.1, em]; omega)]
        rcases mkf_spec (ntv v ca lg g) (DD v ca (v (99 + g)) lg (v (111 + g))) k with ⟨y1, -⟩ | ⟨p, y1, y2⟩
        · rw [y1] at ih' ⊢
          rw [if_pos (show mki (-4) none = -4 from rfl), lt_eq, inc_nI]
          exact ih'
        · rw [y1] at ih' ⊢
          have hpk := y2.1
          have ih2 : f_X11_marketOf_67_l22 f (nI g) (mki (-4) (if ntv v ca lg g k ≤ ntv v ca lg g p then some p else some k)) (nI (k + 1)) J L = some (mki (-4) (mkv v ca lg g), J, L) := ih'
          have np := net_t hw hca hg hlg (show p < v 0 by omega) y2.2.1
          have ne : ¬ mki (-4) (some p) = -4 := by
            show ¬ nI p = -4
            intro z
            have := congrArg Int32.toInt z
            rw [t_nI (by omega)] at this
            have q4 : (-4 : Int32).toInt = -4 := by decide
            omega
          rw [if_neg ne]
          show (f_X11_netOf_67 J L (nI g) (nI p)).bind _ = _
          rw [netOf_dd hw hmJ hca hg hlg (by omega) h3, if_pos y2.2.1, Option.bind_some]
          by_cases z : ntv v ca lg g k ≤ ntv v ca lg g p
          · rw [if_pos z] at ih2
            rw [if_pos (by rw [Int32.le_iff_toInt_le, nk.1, np.1]; exact z), lt_eq, inc_nI]
            exact ih2
          · rw [if_neg z] at ih2
            rw [if_neg (by rw [Int32.le_iff_toInt_le, nk.1, np.1]; exact z), lt_eq, inc_nI]
            exact ih2
      · rw [if_neg q] at ih'
        rw [if_neg q, if_pos (by rw [Int32.le_iff_toInt_le]; omega), lt_eq, inc_nI]
        exact ih'
  exact key (v 0) 0 fuel (by omega) (fuel_gt (by omega))
theorem st_market {a1 a2 : Int32} (h : Rel I L) : St_market Rel I L a1 a2 := by
  obtain ⟨⟨v, hw, hm, hc⟩, hr2⟩ := id h
  have sz := hw.sz
  unfold St_market f_X10_market_0
  rw [hasGood_n hc.c3 (by omega), hasCart_n hc.c2 (by omega)]
  have hM : ∀ J : mI, MH J 68 v → f_X11_market_67 J L a1 a2 = if 0 ≤ a1.toInt ∧ a1.toInt < (v 3 : Int) then (if 0 ≤ a2.toInt ∧ a2.toInt < (v 2 : Int) then (bndI (f_X11_marketOf_67 J L a1 a2 0) (fun r3 Ir3 Lr3 => some (r3, Ir3, Lr3))) else some (-1, J, L)) else some (-1, J, L) := by
    intro J hJ
    unfold f_X11_market_67
    rw [isGood_n (hJ 3 (by omega)) (by omega), isCart_n (hJ 2 (by omega)) (by omega)]
    simp only [Option.bind_some, bit_ite]
  simp only [Option.bind_some, bit_ite]
  by_cases q1 : 0 ≤ a1.toInt ∧ a1.toInt < (v 3 : Int)
  · by_cases q2 : 0 ≤ a2.toInt ∧ a2.toInt < (v 2 : Int)
    · rw [if_pos q1, if_pos q2]
      obtain ⟨g, hg, rfl, -⟩ := ofI q1.1 q1.2
      obtain ⟨ca, hca, rfl, -⟩ := ofI q2.1 q2.2
      obtain ⟨J1, h1, h2, h3⟩ := harness_hr (L := L) hw hc hca
      obtain ⟨J2, g1, g2, g3⟩ := cmarket (L := L) hw (hc.frame (fun k a b => h2 k (by omega) (by omega))) hca hg (by omega) h3
      have hf : ∀ k, k < 48 ∨ 66 < k → J2 k = I k := fun k hk => by rw [g2 k hk, h2 k (by omega) (by omega)]
      have hm2 : MH J2 68 v := hm.frame (hf 68 (by omega))
      obtain ⟨J3, m1, m2, -⟩ := mmarket (L := L) hw hm2 hca hg (show 0 < 256 by omega)
      refine ⟨mki (-4) (mkv v ca 0 g), J2, L, J3, L, ?_, ?_, h.scr (fun k hk => by rw [m2 k (by omega), hf k (by omega)])⟩
      · rw [h1, bndV_some, g1, bndI_some]
        cases e : mkv v ca 0 g with
        | none => rfl
        | some p =>
          have := (mkv_lt e).1
          show (if 0 ≤ nI p then _ else _) = _
          rw [if_pos (ge0_nI (by omega))]; rfl
      · rw [hM J2 hm2, if_pos q1, if_pos q2]
        show bndI (f_X11_marketOf_67 J2 L (nI g) (nI ca) (nI 0)) _ = _
        rw [m1, bndI_some]
    · rw [if_pos q1, if_neg q2]
      exact ⟨-1, I, L, I, L, rfl, by rw [hM I hm, if_pos q1, if_neg q2], h⟩
  · rw [if_neg q1]
    exact ⟨-1, I, L, I, L, rfl, by rw [hM I hm, if_neg q1], h⟩
end Market
