/-! ===== PURE 10: who hears whom, out of the 64 bits; the end of a night in both ===== -/
/-- the hearers of hill h, out of the bits of the day -/
def hC (v : Int64) (h : Nat) : Int32 := ((v >>> (((6 : Int32) * nI h).toInt64 &&& 63)).toInt32) &&& (63 : Int32)
def EC (v : Int64) (h : Nat) : Nat := (hC v h).toBitVec.toNat
theorem hearersOf_eq {v : Int64} {h : Nat} {σ : hSt} : F_X11_hearersOf v (nI h) σ = some (hC v h) := rfl
theorem hC_sh : ∀ h, h < 6 → (((6 : Int32) * nI h).toInt64 &&& 63).toBitVec.smod 64 = BitVec.ofNat 64 (6 * h) := by decide +kernel
theorem bt_63 : ∀ b, b < 32 → bt 63 b = decide (b < 6) := by decide +kernel
theorem hC_bt {v : Int64} {h b : Nat} (hh : h < 6) (hb : b < 32) : bt (hC v h) b = (decide (b < 6) && v.toBitVec.getLsbD (6 * h + b)) := by
  unfold hC
  rw [bt_and, bt_63 b hb]
  by_cases h6 : b < 6
  · have q : bt ((v >>> (((6 : Int32) * nI h).toInt64 &&& 63)).toInt32) b = v.toBitVec.getLsbD (6 * h + b) := by
      unfold bt
      rw [Int64.toBitVec_toInt32, BitVec.getLsbD_signExtend, Int64.toBitVec_shiftRight, hC_sh h hh, BitVec.getLsbD_sshiftRight']
      have e1 : (BitVec.ofNat 64 (6 * h)).toNat = 6 * h := by rw [BitVec.toNat_ofNat]; omega
      rw [e1]
      have e2 : 6 * h + b < 64 := by omega
      have e3 : ¬ 64 ≤ b := by omega
      simp [hb, e2, e3]
    rw [q, Bool.and_comm]
  · simp [h6]
theorem hC_EC {v : Int64} {h : Nat} : hC v h = nI (EC v h) := Int32.toBitVec_inj.mp (by
  show (hC v h).toBitVec = BitVec.ofNat 32 (hC v h).toBitVec.toNat
  rw [BitVec.ofNat_toNat, BitVec.setWidth_eq])
theorem EC_lt {v : Int64} {h : Nat} : EC v h < 64 := by
  unfold EC hC
  rw [Int32.toBitVec_and, BitVec.toNat_and]
  have := Nat.and_le_right (n := ((v >>> (((6 : Int32) * nI h).toInt64 &&& 63)).toInt32).toBitVec.toNat) (m := (63 : Int32).toBitVec.toNat)
  have e : (63 : Int32).toBitVec.toNat = 63 := by decide
  omega
/-- the world behind the end of a night -/
def nigC (w : Nat) (σ : hSt) : hSt := uI (uI (uI (uI σ w 0 ((σ.1 w 0) + (1 : Int32))) w 7 0) w 3 0) w 4 0
def nigR (r : Nat → Int32) : Nat → Int32 := upd (upd r 120 (r 120 + 1)) 121 0
theorem nightEnd_eq {w : Nat} {σ : hSt} : F_X10_passNight_99 w σ = some (nigC w σ) := rfl
theorem nigC_P {w : Nat} {σ : hSt} : (nigC w σ).2 = σ.2 := rfl
theorem nigC_row {w k : Nat} {σ : hSt} (h : k ≠ w) : (nigC w σ).1 k = σ.1 k := by
  unfold nigC
  rw [uI_row _ _ h, uI_row _ _ h, uI_row _ _ h, uI_row _ _ h]
theorem nigC_w {w k : Nat} {σ : hSt} : (nigC w σ).1 w k = if k = 3 ∨ k = 4 ∨ k = 7 then 0 else if k = 0 then σ.1 w 0 + 1 else σ.1 w k := by
  unfold nigC
  rw [uI_I, uI_I, uI_I, uI_I]
  by_cases a : k = 4
  · subst a; simp
  by_cases b : k = 3
  · subst b; simp
  by_cases c : k = 7
  · subst c; simp
  simp [a, b, c]
theorem night_keep {w : Nat} {σ : hSt} {r : Nat → Int32} (hW : RWp σ.1 w r) : RW (nigC w σ).1 w (nigR r) 0 := by
  obtain ⟨a, b, c, d⟩ := hW
  refine ⟨⟨?_, ?_, fun i hi hi2 => ?_, fun x y hx hy => ?_⟩, ?_, ?_, by omega, fun i hi => absurd hi (by omega), fun x y _ _ => ?_, fun x y _ _ => ?_⟩
  · rw [nigC_w]
    unfold nigR
    rw [upd_ne (by decide), upd_eq, ← a]
    rfl
  · rw [nigC_w]
    unfold nigR
    rw [upd_ne (by decide), upd_ne (by decide), ← b]
    rfl
  · rw [nigC_w, if_neg (by decide), if_neg (by decide)]; exact c i hi hi2
  · obtain ⟨a1, a2, a3, a4⟩ := d x y hx hy
    have hr : ∀ j, j < 120 → nigR r j = r j := fun j hj => by unfold nigR; rw [upd_ne (by omega), upd_ne (by omega)]
    have hI : ∀ k, k = 1 ∨ k = 2 ∨ k = 5 ∨ k = 6 → (nigC w σ).1 w k = σ.1 w k := fun k hk => by rw [nigC_w, if_neg (by omega), if_neg (by omega)]
    unfold RWq
    rw [hI 1 (by decide), hI 2 (by decide), hI 5 (by decide), hI 6 (by decide), nigC_row (by omega), nigC_row (by omega), hr _ (by omega), hr _ (by omega), hr _ (by omega), hr _ (by omega), hr _ (by omega)]
    exact ⟨a1, a2, a3, a4⟩
  · rw [nigC_w]; rfl
  · unfold nigR; rw [upd_eq]; rfl
  · rw [nigC_w, if_pos (by decide), bt_0]
    exact ⟨fun z => absurd z (by decide), fun ⟨i, hi, _⟩ => absurd hi (by omega)⟩
  · rw [nigC_w, if_pos (by decide), bt_0]
    exact ⟨fun z => absurd z (by decide), fun ⟨i, hi, _⟩ => absurd hi (by omega)⟩
