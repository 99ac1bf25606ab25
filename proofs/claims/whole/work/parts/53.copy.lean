/-! ===== PURE 18: copies of worlds ===== -/
theorem cpy_lo {f g : Nat → Int32} {n k : Nat} (h : k < n) : va_cpy f g 0 0 n k = f k := by
  unfold va_cpy
  simp [h]
theorem RWt_hi {I I' : Nat → Nat → Int32} {w w' : Nat} {r : Nat → Int32} {t : Nat} (h : RWt I w r t) (e : ∀ k, k < 9 → I' w' k = I w k) (e3 : ∀ i, i < 60 → I' (w' + 3) i = I (w + 3) i) : RWt I' w' r t := by
  obtain ⟨a, b, c, d, f, g⟩ := h
  refine ⟨by rw [e 7 (by decide)]; exact a, b, c, fun i hi => by rw [e3 i (by omega)]; exact d i hi, ?_, ?_⟩
  · rw [e 3 (by decide)]; exact f
  · rw [e 4 (by decide)]; exact g
theorem RWp_hi {I I' : Nat → Nat → Int32} {w w' : Nat} {r : Nat → Int32} (h : RWp I w r) (e : ∀ k, k < 9 → I' w' k = I w k) (e1 : ∀ i, i < 24 → I' (w' + 1) i = I (w + 1) i) (e2 : ∀ i, i < 24 → I' (w' + 2) i = I (w + 2) i) : RWp I' w' r := by
  obtain ⟨a, b, c, d⟩ := h
  refine ⟨by rw [e 0 (by decide)]; exact a, by rw [e 8 (by decide)]; exact b, fun i h1 h2 => by rw [e 1 (by decide)]; exact c i h1 h2, fun x y hx hy => ?_⟩
  have := d x y hx hy
  unfold RWq at this ⊢
  rw [e 1 (by decide), e 2 (by decide), e 5 (by decide), e 6 (by decide), e1 _ (by omega), e2 _ (by omega)]
  exact this
/-- the world v with the fields of w -/
def cpC (v w : Nat) (σ : hSt) : hSt :=
  let s := uI (uI (uI (uI (uI (uI (uI (uI (uI σ v 0 (σ.1 w 0)) v 1 (σ.1 w 1)) v 2 (σ.1 w 2)) v 3 (σ.1 w 3)) v 4 (σ.1 w 4)) v 5 (σ.1 w 5)) v 6 (σ.1 w 6)) v 7 (σ.1 w 7)) v 8 (σ.1 w 8)
  uA (uA (uA s (v + 1) (va_cpy (σ.1 (w + 1)) (σ.1 (v + 1)) 0 0 24)) (v + 2) (va_cpy (σ.1 (w + 2)) (σ.1 (v + 2)) 0 0 24)) (v + 3) (va_cpy (σ.1 (w + 3)) (σ.1 (v + 3)) 0 0 60)
theorem cpC_P {v w : Nat} {σ : hSt} : (cpC v w σ).2 = σ.2 := rfl
theorem cpC_row {v w k : Nat} {σ : hSt} (h : ¬ (v ≤ k ∧ k < v + 4)) : (cpC v w σ).1 k = σ.1 k := by
  unfold cpC
  dsimp only
  rw [uA_row _ _ (by omega), uA_row _ _ (by omega), uA_row _ _ (by omega), uI_row _ _ (by omega), uI_row _ _ (by omega), uI_row _ _ (by omega), uI_row _ _ (by omega), uI_row _ _ (by omega), uI_row _ _ (by omega), uI_row _ _ (by omega), uI_row _ _ (by omega), uI_row _ _ (by omega)]
theorem cpC_w {v w : Nat} {σ : hSt} : ∀ k, k < 9 → (cpC v w σ).1 v k = σ.1 w k := by
  intro k hk
  unfold cpC
  dsimp only
  rw [uA_row _ _ (by omega), uA_row _ _ (by omega), uA_row _ _ (by omega)]
  rcases (show k = 0 ∨ k = 1 ∨ k = 2 ∨ k = 3 ∨ k = 4 ∨ k = 5 ∨ k = 6 ∨ k = 7 ∨ k = 8 by omega) with q | q | q | q | q | q | q | q | q <;> subst q <;> simp [uI_I]
theorem cpC_1 {v w i : Nat} {σ : hSt} (hi : i < 24) : (cpC v w σ).1 (v + 1) i = σ.1 (w + 1) i := by
  unfold cpC
  dsimp only
  rw [uA_row _ _ (by omega), uA_row _ _ (by omega), uA_own, cpy_lo hi]
theorem cpC_2 {v w i : Nat} {σ : hSt} (hi : i < 24) : (cpC v w σ).1 (v + 2) i = σ.1 (w + 2) i := by
  unfold cpC
  dsimp only
  rw [uA_row _ _ (by omega), uA_own, cpy_lo hi]
theorem cpC_3 {v w i : Nat} {σ : hSt} (hi : i < 60) : (cpC v w σ).1 (v + 3) i = σ.1 (w + 3) i := by
  unfold cpC
  dsimp only
  rw [uA_own, cpy_lo hi]
/-- a copied world stands beside what its source stood beside -/
theorem copy_keep {v w t : Nat} {σ : hSt} {r : Nat → Int32} (h : RW σ.1 w r t) : RW (cpC v w σ).1 v r t :=
  ⟨RWp_hi h.1 cpC_w (fun _ hi => cpC_1 hi) (fun _ hi => cpC_2 hi), RWt_hi h.2 cpC_w (fun _ hi => cpC_3 hi)⟩
theorem uI_2 (σ : hSt) (c k : Nat) (v : Int32) : (uI σ c k v).2 = σ.2 := rfl
theorem uA_2 (σ : hSt) (c : Nat) (f : Nat → Int32) : (uA σ c f).2 = σ.2 := rfl
theorem copy_eq {v w : Nat} {σ : hSt} (hP : HC σ.2.2) (hv : okr kC NC 10 v = true) (hw : okr kC NC 10 w = true) (hd : v + 4 ≤ w ∨ w + 4 ≤ v) : F_X10_copy v w σ = some (cpC v w σ) := by
  unfold F_X10_copy cL
  dsimp only
  simp only [uI_2, uA_2]
  rw [rC_10_9 hP hw, rC_10_9 hP hv, cG_t (by rw [nC_10_9 hw, nC_10_9 hv]; decide), rC_10_10 hP hw, rC_10_10 hP hv, cG_t (by rw [nC_10_10 hw, nC_10_10 hv]; decide), rC_10_11 hP hw, rC_10_11 hP hv, cG_t (by rw [nC_10_11 hw, nC_10_11 hv]; decide)]
  unfold cpC
  dsimp only
  have n : ∀ (s : hSt) (k j : Nat) (x : Int32), (uI s v k x).1 w j = s.1 w j := fun s k j x => uI_ne _ _ (by omega)
  simp only [n]
  congr 1
  rw [uA_row _ _ (show w + 2 ≠ v + 1 by omega), uA_row _ _ (show v + 2 ≠ v + 1 by omega), uA_row _ _ (show w + 3 ≠ v + 2 by omega), uA_row _ _ (show v + 3 ≠ v + 2 by omega), uA_row _ _ (show w + 3 ≠ v + 1 by omega), uA_row _ _ (show v + 3 ≠ v + 1 by omega)]
  have m : ∀ (s : hSt) (k c : Nat) (x : Int32), c ≠ v → (uI s v k x).1 c = s.1 c := fun s k c x hc => uI_row _ _ hc
  simp only [m _ _ (w + 1) _ (by omega), m _ _ (w + 2) _ (by omega), m _ _ (w + 3) _ (by omega), m _ _ (v + 1) _ (by omega), m _ _ (v + 2) _ (by omega), m _ _ (v + 3) _ (by omega)]
  rfl
