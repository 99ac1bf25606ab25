/-! ===== PURE 23: the beginning, news by news ===== -/
theorem bg_RW {w h m : Nat} {σ : hSt} {r r' : Nat → Int32} (hR : RW σ.1 w r 0) (hh : h < 6) (hm : m < 4) (h2 : ∀ x, x < 6 → bt (σ.1 w 2) (6 * m + x) = false) (hb : bgR h m r r') : RW (bgC w h m σ).1 w r' 0 := by
  refine ⟨bg_keep hR.1 hh hm h2 hb, ?_⟩
  obtain ⟨-, a, b, c, d, f, g⟩ := hR
  have no : ∀ (r : Nat → Int32) x y d, ¬ ∃ i, i < 0 ∧ hrdN r i x y d := fun r x y d ⟨i, hi, _⟩ => absurd hi (by omega)
  refine ⟨by rw [bgC_w (by decide)]; exact a, by rw [hb.1 _ (by decide)]; exact b, c, fun i hi => absurd hi (by omega), fun x y hx hy => ?_, fun x y hx hy => ?_⟩
  · rw [bgC_w (by decide), f x y hx hy]
    exact ⟨fun z => absurd z (no _ _ _ _), fun z => absurd z (no _ _ _ _)⟩
  · rw [bgC_w (by decide), g x y hx hy]
    exact ⟨fun z => absurd z (no _ _ _ _), fun z => absurd z (no _ _ _ _)⟩
/-- the row behind the first m news -/
def bgN (Hm : Nat → Nat) (r : Nat → Int32) : Nat → Nat → Int32
  | 0 => r
  | m + 1 => kfbR (Hm m) m (bgN Hm r m)
theorem bgN_col {Hm : Nat → Nat} {r : Nat → Int32} (hr : ∀ j, j < 380 → r j = 0) (hH : ∀ m, m < 4 → Hm m < 6) : ∀ m, m ≤ 4 → ∀ x y, x < 6 → y < 4 → m ≤ y → bgN Hm r m (4 * x + y) = 0
  | 0, _, x, y, hx, hy, _ => hr _ (by omega)
  | m + 1, hm, x, y, hx, hy, h => by
    have := hH m (by omega)
    unfold bgN kfbR
    rw [upd_ne (by omega), upd_ne (by omega), upd_ne (by omega), upd_ne (by omega)]
    exact bgN_col hr hH m (by omega) x y hx hy (by omega)
