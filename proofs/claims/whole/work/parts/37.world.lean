/-! ===== PURE 2: the worlds: single questions ===== -/
theorem nI_lit : (6 : Int32) = nI 6 ∧ (3 : Int32) = nI 3 ∧ (4 : Int32) = nI 4 ∧ (1 : Int32) = nI 1 ∧ (0 : Int32) = nI 0 := by decide +kernel
theorem pairOf_eq {h n : Nat} (σ : hSt) : F_X11_pairOf (nI h) (nI n) σ = some (nI (6 * n + h)) := by
  unfold F_X11_pairOf
  simp only [show (6 : Int32) = nI 6 from rfl, pk_mul, nI_add]
theorem knowsC_eq {w h n : Nat} {σ : hSt} (hh : h < 6) (hn : n < 4) : F_X10_knows w (nI h) (nI n) σ = some (if bt (σ.1 w 1) (6 * n + h) then 1 else 0) := by
  unfold F_X10_knows
  rw [pairOf_eq]
  simp only [Option.bind_some]
  rw [show (1 : Int32) = 1 from rfl, bt_ask (by omega)]
  cases bt (σ.1 w 1) (6 * n + h) <;> rfl
theorem cl_nI {n : Nat} (h : n < 2 ^ 31) : (nI n).toNatClampNeg = n := nI_clamp h
theorem knowsM_eq {h n : Nat} {τ : hSt} (hP : HM τ.2.2) (hh : h < 6) (hn : n < 4) : F_X12_knows 0 (nI h) (nI n) τ = some (if τ.1 37 (4 * h + n) = 1 then 1 else 0) := by
  unfold F_X12_knows
  rw [rM_54 hP]
  simp only [show (4 : Int32) = nI 4 from rfl, pk_mul, nI_add]
  rw [cG_t (inb_nI (by rw [kM_37]; omega) (by decide)), cl_nI (by omega)]
  split <;> rfl
