/-! the start: both objects are made, the loop begins -/
def I0 : mI := pI (fun _ _ => 0) 72 (upd (upd (upd (upd (fun _ => 0) 0 (-1)) 1 (-1)) 2 (-1)) 3 (-1))
def L0 : mL := fun _ _ => 0
def mpi {α β : Type} (f : Nat → α → β) : Nat → List α → List β
  | _, [] => []
  | k, a :: r => f k a :: mpi f (k + 1) r
theorem mpi_eq {α β : Type} (f : Nat → α → β) : ∀ (l : List α) (k : Nat), l.mapIdx (fun i a => f (k + i) a) = mpi f k l
  | [], k => rfl
  | a :: r, k => by
    rw [List.mapIdx_cons]
    show f (k + 0) a :: _ = f k a :: mpi f (k + 1) r
    rw [← mpi_eq f r (k + 1)]
    congr 1
    congr 1
    funext i b
    rw [Nat.add_assoc, Nat.add_comm 1 i]
theorem mpi_eq0 {α β : Type} (f : Nat → α → β) (l : List α) : l.mapIdx f = mpi f 0 l := by
  rw [← mpi_eq f l 0]
  congr 1
  funext i a
  rw [Nat.zero_add]
set_option maxHeartbeats 4000000 in
set_option maxRecDepth 100000 in
theorem wld_start (ca : FieldType → ClassId) (y0 y1 y2 y3 y4 y5 y6 y7 y8 y9 y10 y11 y12 y13 y14 y15 y16 y17 y18 y19 y20 y21 y22 y23 y24 y25 y26 y27 y28 y29 y30 y31 y32 y33 y34 y35 y36 y37 y38 y39 y40 y41 y42 y43 y44 y45 y46 y47 y48 y49 y50 y51 y52 y53 y54 y55 y56 y57 y58 y59 y60 y61 y62 y63 y64 y65 y66 z0 z1 z2 z3 z4 z5 z6 z7 z8 z9 z10 z11 z12 z13 k81 k82 k83 b : Nat) : wld (fun k => ([y0, y1, y2, y3, y4, y5, y6, y7, y8, y9, y10, y11, y12, y13, y14, y15, y16, y17, y18, y19, y20, y21, y22, y23, y24, y25, y26, y27, y28, y29, y30, y31, y32, y33, y34, y35, y36, y37, y38, y39, y40, y41, y42, y43, y44, y45, y46, y47, y48, y49, y50, y51, y52, y53, y54, y55, y56, y57, y58, y59, y60, y61, y62, y63, y64, y65, y66, z0, z1, z2, z3, z4, z5, z6, z7, z8, z9, z10, z11, z12, z13, k81, k82, k83, b] : List Nat).getD k 0) ca I0 L0 = [(y0, .inr (9, [.ref y1, .ref y16, .ref y31, .ref y39, .ref y48, .ref y55, .ref y60, .ref y63, .ref y65, .int 0])), (y1, .inr (6, [.ref y2, .ref y8, .ref y9, .ref y10, .ref y11, .ref y12, .ref y13, .ref y14, .ref y15, .int 0, .int 0, .int 0, .int 0])), (y2, .inr (2, [.ref y3, .ref y4, .ref y5, .ref y6, .ref y7, .int 0, .int 0])), (y3, .inl (ca .int, 8, .inl (fun _ => 0))), (y4, .inl (ca .int, 32, .inl (fun _ => 0))), (y5, .inl (ca .int, 15, .inl (fun _ => 0))), (y6, .inl (ca .int, 15, .inl (fun _ => 0))), (y7, .inl (ca .int, 15, .inl (fun _ => 0))), (y8, .inl (ca .int, 4, .inl (fun _ => 0))), (y9, .inl (ca .int, 4, .inl (fun _ => 0))), (y10, .inl (ca .int, 6, .inl (fun _ => 0))), (y11, .inl (ca .int, 6, .inl (fun _ => 0))), (y12, .inl (ca .int, 6, .inl (fun _ => 0))), (y13, .inl (ca .int, 6, .inl (fun _ => 0))), (y14, .inl (ca .int, 6, .inl (fun _ => 0))), (y15, .inl (ca .int, 6, .inl (fun _ => 0))), (y16, .inr (6, [.ref y17, .ref y23, .ref y24, .ref y25, .ref y26, .ref y27, .ref y28, .ref y29, .ref y30, .int 0, .int 0, .int 0, .int 0])), (y17, .inr (2, [.ref y18, .ref y19, .ref y20, .ref y21, .ref y22, .int 0, .int 0])), (y18, .inl (ca .int, 8, .inl (fun _ => 0))), (y19, .inl (ca .int, 32, .inl (fun _ => 0))), (y20, .inl (ca .int, 15, .inl (fun _ => 0))), (y21, .inl (ca .int, 15, .inl (fun _ => 0))), (y22, .inl (ca .int, 15, .inl (fun _ => 0))), (y23, .inl (ca .int, 4, .inl (fun _ => 0))), (y24, .inl (ca .int, 4, .inl (fun _ => 0))), (y25, .inl (ca .int, 6, .inl (fun _ => 0))), (y26, .inl (ca .int, 6, .inl (fun _ => 0))), (y27, .inl (ca .int, 6, .inl (fun _ => 0))), (y28, .inl (ca .int, 6, .inl (fun _ => 0))), (y29, .inl (ca .int, 6, .inl (fun _ => 0))), (y30, .inl (ca .int, 6, .inl (fun _ => 0))), (y31, .inr (7, [.ref y32, .ref y33, .int 0, .int 0])), (y32, .inl (ca .char, 120, .inl (fun _ => 0))), (y33, .inr (2, [.ref y34, .ref y35, .ref y36, .ref y37, .ref y38, .int 0, .int 0])), (y34, .inl (ca .int, 8, .inl (fun _ => 0))), (y35, .inl (ca .int, 32, .inl (fun _ => 0))), (y36, .inl (ca .int, 15, .inl (fun _ => 0))), (y37, .inl (ca .int, 15, .inl (fun _ => 0))), (y38, .inl (ca .int, 15, .inl (fun _ => 0))), (y39, .inr (5, [.ref y40, .ref y45, .ref y46, .ref y47])), (y40, .inl (ca (.array .long), 4, .inr (.inr (.inr (.inr (fun i => if i = 0 then some y41 else if i = 1 then some y42 else if i = 2 then some y43 else if i = 3 then some y44 else none)))))), (y41, .inl (ca .long, 24, .inr (.inl (fun _ => 0)))), (y42, .inl (ca .long, 24, .inr (.inl (fun _ => 0)))), (y43, .inl (ca .long, 24, .inr (.inl (fun _ => 0)))), (y44, .inl (ca .long, 24, .inr (.inl (fun _ => 0)))), (y45, .inl (ca .int, 4, .inl (fun _ => 0))), (y46, .inl (ca .int, 4, .inl (fun _ => 0))), (y47, .inl (ca .boolean, 4, .inl (fun _ => 0))), (y48, .inr (4, [.ref y1, .ref y49, .ref y50, .ref y51, .ref y52, .ref y53, .ref y54, .int 0, .int 0, .int 0, .int 0, .int 0, .int 0, .int 0])), (y49, .inl (ca .int, 64, .inl (fun _ => 0))), (y50, .inl (ca .int, 64, .inl (fun _ => 0))), (y51, .inl (ca .int, 8, .inl (fun _ => 0))), (y52, .inl (ca .int, 8, .inl (fun _ => 0))), (y53, .inl (ca .int, 8, .inl (fun _ => 0))), (y54, .inl (ca .int, 8, .inl (fun _ => 0))), (y55, .inr (8, [.ref y1, .ref y48, .ref y56, .ref y57, .ref y58, .ref y59, .int 0])), (y56, .inl (ca .int, 8, .inl (fun _ => 0))), (y57, .inl (ca .int, 8, .inl (fun _ => 0))), (y58, .inl (ca .int, 8, .inl (fun _ => 0))), (y59, .inl (ca .int, 8, .inl (fun _ => 0))), (y60, .inr (1, [.ref y1, .ref y48, .ref y61, .ref y62, .int 0, .int 0])), (y61, .inl (ca .int, 81, .inl (fun _ => 0))), (y62, .inl (ca .int, 81, .inl (fun _ => 0))), (y63, .inr (3, [.ref y1, .ref y48, .ref y64, .long 0, .long 0])), (y64, .inl (ca .int, 256, .inl (fun _ => 0))), (y65, .inr (0, [.ref y66, .int 0, .int 0, .int 0])), (y66, .inl (ca .int, 4, .inl (fun _ => 0))), (z0, .inr (10, [.ref z1, .ref z2, .int 0, .ref z3, .int 0, .ref z4, .ref z5, .ref z6, .int 0, .ref z7, .ref z8, .ref z9, .ref z10, .ref z11, .ref z12, .long 0, .long 0, .ref z13])), (z1, .inl (ca .int, 135, .inl (fun _ => 0))), (z2, .inl (ca .int, 135, .inl (fun _ => 0))), (z3, .inl (ca .int, 120, .inl (fun _ => 0))), (z4, .inl (ca .int, 4, .inl (fun _ => 0))), (z5, .inl (ca .int, 4, .inl (upd (upd (upd (upd (fun _ => 0) 0 (-1)) 1 (-1)) 2 (-1)) 3 (-1)))), (z6, .inl (ca .long, 96, .inr (.inl (fun _ => 0)))), (z7, .inl (ca .int, 135, .inl (fun _ => 0))), (z8, .inl (ca .int, 64, .inl (fun _ => 0))), (z9, .inl (ca .int, 9, .inl (fun _ => 0))), (z10, .inl (ca .int, 9, .inl (fun _ => 0))), (z11, .inl (ca .int, 100, .inl (fun _ => 0))), (z12, .inl (ca .int, 100, .inl (fun _ => 0))), (z13, .inl (ca .int, 4, .inl (fun _ => 0)))] := by
  have hrow : (fun i => if i < 4 then some ((fun k => ([y0, y1, y2, y3, y4, y5, y6, y7, y8, y9, y10, y11, y12, y13, y14, y15, y16, y17, y18, y19, y20, y21, y22, y23, y24, y25, y26, y27, y28, y29, y30, y31, y32, y33, y34, y35, y36, y37, y38, y39, y40, y41, y42, y43, y44, y45, y46, y47, y48, y49, y50, y51, y52, y53, y54, y55, y56, y57, y58, y59, y60, y61, y62, y63, y64, y65, y66, z0, z1, z2, z3, z4, z5, z6, z7, z8, z9, z10, z11, z12, z13, k81, k82, k83, b] : List Nat).getD k 0) (41 + i)) else none) = (fun i => if i = 0 then some y41 else if i = 1 then some y42 else if i = 2 then some y43 else if i = 3 then some y44 else none) := by
    funext i
    rcases (show i = 0 ∨ i = 1 ∨ i = 2 ∨ i = 3 ∨ 4 ≤ i by omega) with rfl | rfl | rfl | rfl | h
    · rfl
    · rfl
    · rfl
    · rfl
    · rw [if_neg (by omega), if_neg (by omega), if_neg (by omega), if_neg (by omega), if_neg (by omega)]
  unfold wld
  rw [mpi_eq0]
  simp only [SH0, mpi, cellOf, mpi_eq0, fldOf, Nat.zero_add, Nat.reduceAdd]
  rw [hrow]
  rfl
