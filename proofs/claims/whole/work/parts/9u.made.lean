/-! ===== PURE 85: the two made states ===== -/
def sC0 : hSt := (mC.getD (0, hZ)).2
def sM0 : hSt := (mM.getD (0, hZ)).2
theorem mC_is : F_X11_init 0 1 (zO hZ 0) = some (NC, sC0) := by
  have h := mC_n
  show mC = some (NC, sC0)
  unfold sC0
  cases q : mC with
  | none => rw [q] at h; cases h
  | some x =>
    rw [q] at h
    have e : x.1 = 246 := Option.some.inj h
    show some x = some (NC, x.2)
    rw [show (NC : Nat) = x.1 from e.symm]
theorem mM_is : F_X12_init 0 1 (zO hZ 0) = some (NM, sM0) := by
  have h := mM_n
  show mM = some (NM, sM0)
  unfold sM0
  cases q : mM with
  | none => rw [q] at h; cases h
  | some x =>
    rw [q] at h
    have e : x.1 = 47 := Option.some.inj h
    show some x = some (NM, x.2)
    rw [show (NM : Nat) = x.1 from e.symm]
set_option maxRecDepth 100000 in
set_option maxHeartbeats 8000000 in
theorem sC0_f : ∀ q ∈ [((0 : Nat), (4 : Nat), (-1 : Int32)), (0, 9, 0), (1, 1, 0), (3, 0, 0), (3, 3, 0), (3, 8, 1), (3, 9, 0), (7, 2, 4), (8, 0, 10), (8, 1, -141), (8, 2, -45), (8, 3, -59), (10, 1, 0), (12, 1, 0), (44, 0, 0), (44, 1, 0), (44, 2, 0), (44, 3, 0), (44, 4, 0), (44, 5, 0), (44, 6, 0), (44, 7, 0), (44, 8, 0), (52, 1, 0), (52, 2, 0), (215, 3, 0)], sC0.1 q.1 q.2.1 = q.2.2 := by decide +kernel
set_option maxRecDepth 100000 in
set_option maxHeartbeats 8000000 in
theorem sC0_19 : ∀ j, j < 256 → sC0.1 19 j = -1 := by decide +kernel
set_option maxRecDepth 100000 in
set_option maxHeartbeats 8000000 in
theorem sM0_f : ∀ q ∈ [((0 : Nat), (2 : Nat), (0 : Int32)), (0, 17, -1), (0, 18, 0), (0, 57, 0), (0, 63, 0), (11, 0, 0), (14, 0, 0), (16, 0, 0), (16, 1, 0), (18, 0, 1), (19, 0, 0), (23, 0, 0), (24, 0, 0), (45, 0, 0), (45, 1, 0), (45, 2, 0)], sM0.1 q.1 q.2.1 = q.2.2 := by decide +kernel
set_option maxRecDepth 100000 in
set_option maxHeartbeats 8000000 in
theorem sM0_k : ∀ k, k < 19 → sM0.2.1 7 k = kyV k := by decide +kernel
set_option maxRecDepth 100000 in
set_option maxHeartbeats 8000000 in
theorem sM0_36 : ∀ j, j < 380 → sM0.1 36 j = 0 := by decide +kernel
