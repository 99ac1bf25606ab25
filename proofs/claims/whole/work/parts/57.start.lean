/-! ===== PURE 22: the begin of the class's world ===== -/
/-- the fields of a world at naught -/
def z0C (w : Nat) (σ : hSt) : hSt := uI (uI (uI (uI (uI (uI (uI (uI (uI σ w 0 0) w 1 0) w 2 0) w 3 0) w 4 0) w 5 0) w 6 0) w 7 0) w 8 0
theorem z0C_w {w : Nat} {σ : hSt} : ∀ k, k < 9 → (z0C w σ).1 w k = 0 := by
  intro k hk
  unfold z0C
  rcases (show k = 0 ∨ k = 1 ∨ k = 2 ∨ k = 3 ∨ k = 4 ∨ k = 5 ∨ k = 6 ∨ k = 7 ∨ k = 8 by omega) with q | q | q | q | q | q | q | q | q <;> subst q <;> simp [uI_I]
theorem z0C_row {w k : Nat} {σ : hSt} (h : k ≠ w) : (z0C w σ).1 k = σ.1 k := by
  unfold z0C
  rw [uI_row _ _ h, uI_row _ _ h, uI_row _ _ h, uI_row _ _ h, uI_row _ _ h, uI_row _ _ h, uI_row _ _ h, uI_row _ _ h, uI_row _ _ h]
/-- naught beside naught -/
theorem z0_keep {w : Nat} {σ : hSt} {r : Nat → Int32} (hr : ∀ j, j < 380 → r j = 0) : RW (z0C w σ).1 w r 0 := by
  refine ⟨⟨?_, ?_, fun i hi hi2 => ?_, fun x y hx hy => ?_⟩, ?_, ?_, by omega, fun i hi => absurd hi (by omega), fun x y _ _ => ?_, fun x y _ _ => ?_⟩
  · rw [z0C_w 0 (by decide), hr _ (by decide)]
  · rw [z0C_w 8 (by decide), hr _ (by decide)]
  · rw [z0C_w 1 (by decide), bt_0]
  · unfold RWq
    rw [z0C_w 1 (by decide), z0C_w 2 (by decide), z0C_w 5 (by decide), z0C_w 6 (by decide), hr _ (by omega), hr _ (by omega), hr _ (by omega), hr _ (by omega), hr _ (by omega)]
    simp [bt_0]
  · rw [z0C_w 7 (by decide)]; rfl
  · rw [hr _ (by decide)]; rfl
  · rw [z0C_w 3 (by decide), bt_0]
    exact ⟨fun z => absurd z (by decide), fun ⟨i, hi, _⟩ => absurd hi (by omega)⟩
  · rw [z0C_w 4 (by decide), bt_0]
    exact ⟨fun z => absurd z (by decide), fun ⟨i, hi, _⟩ => absurd hi (by omega)⟩
