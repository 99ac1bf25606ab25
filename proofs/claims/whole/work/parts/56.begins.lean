/-! ===== PURE 21: the news at its home at the beginning, in the model ===== -/
def kfbR (h m : Nat) (r : Nat → Int32) : Nat → Int32 := upd (upd (upd (upd r (4 * h + m) 1) (24 + 4 * h + m) 0) (48 + 4 * h + m) (nI h)) (72 + 4 * h + m) 0
theorem kfbM_eq {h m : Nat} {τ : hSt} (hP : HM τ.2.2) (hh : h < 6) (hm : m < 4) : F_X12_knowsFromBegin 0 (nI h) (nI m) τ = some (uA τ 37 (kfbR h m (τ.1 37))) := by
  unfold F_X12_knowsFromBegin cL
  dsimp only
  simp only [uI_2, show (4 : Int32) = nI 4 from rfl, show (24 : Int32) = nI 24 from rfl, show (48 : Int32) = nI 48 from rfl, show (72 : Int32) = nI 72 from rfl, pk_mul, nI_add]
  rw [rM_54 hP, cG_t (inb_nI (by rw [kM_37]; omega) (by decide)), rM_54 hP, cG_t (inb_nI (by rw [kM_37]; omega) (by decide)), rM_54 hP, cG_t (inb_nI (by rw [kM_37]; omega) (by decide)), rM_54 hP, cG_t (inb_nI (by rw [kM_37]; omega) (by decide)), cl_nI (by omega), cl_nI (by omega), cl_nI (by omega), cl_nI (by omega), uI_as τ, uA_uI, uA_uI, uA_uI]
  rfl
theorem kfb_bgR {h m : Nat} {r : Nat → Int32} (hh : h < 6) (hm : m < 4) (h0 : ∀ x, x < 6 → x ≠ h → r (4 * x + m) = 0) : bgR h m r (kfbR h m r) := by
  refine ⟨fun j hj => ?_, fun x y hx hy hn => ⟨?_, ?_, ?_, ?_⟩, fun x hx hn => ?_, ?_, ?_, ?_, ?_⟩
  · unfold kfbR
    rw [upd_ne (by omega), upd_ne (by omega), upd_ne (by omega), upd_ne (by omega)]
  · unfold kfbR
    rw [upd_ne (by omega), upd_ne (by omega), upd_ne (by omega), upd_ne (by omega)]
  · unfold kfbR
    rw [upd_ne (by omega), upd_ne (by omega), upd_ne (by omega), upd_ne (by omega)]
  · unfold kfbR
    rw [upd_ne (by omega), upd_ne (by omega), upd_ne (by omega), upd_ne (by omega)]
  · unfold kfbR
    rw [upd_ne (by omega), upd_ne (by omega), upd_ne (by omega), upd_ne (by omega)]
  · unfold kfbR
    rw [upd_ne (by omega), upd_ne (by omega), upd_ne (by omega), upd_ne (by omega)]
    exact h0 x hx hn
  · unfold kfbR
    rw [upd_ne (by omega), upd_ne (by omega), upd_ne (by omega), upd_eq]
  · unfold kfbR
    rw [upd_ne (by omega), upd_ne (by omega), show 24 + (4 * h + m) = 24 + 4 * h + m by omega, upd_eq]
  · unfold kfbR
    rw [upd_ne (by omega), show 48 + (4 * h + m) = 48 + 4 * h + m by omega, upd_eq]
  · unfold kfbR
    rw [show 72 + (4 * h + m) = 72 + 4 * h + m by omega, upd_eq]
