/-! ===== PURE 23: the beginning, news by news ===== -/
theorem bg_RW {w h m : Nat} {σ : hSt} {r r' : Nat → Int32} (hR : RW σ.1 w r 0) (hh : h < 6) (hm : m < 4) (h2 : ∀ x, x < 6 → bt (σ.1 w 2) (6 * m + x) = false) (hb : bgR h m r r') : RW (bgC w h m σ).1 w r' 0 := by
  refine ⟨bg_keep hR.1 hh hm h2 hb, ?_⟩
  obtain ⟨-, a, b, c, d, f, g⟩ := hR
  have no : ∀ (r : Nat → Int32) x y d, ¬ ∃ i, i < 0 ∧ hrdN r i x y d := fun r x y d ⟨i, hi, _⟩ => absurd hi (by omega)
  refine ⟨by rw [bgC_w (by decide)]; exact a, by rw [hb.1 _ (by decide)]; exact b, c, fun i hi => absurd hi (by omega), fun x y hx hy => ?_, fun x y hx hy => ?_⟩
  · rw [bgC_w (by decide), f x y hx hy]
    exact ⟨fun z => absurd z (no _ _ _ _), fun z => absurd z (no _ _ _ _)⟩
  · rw [bgC_w (by decide), g x y hx hy]
    exact ⟨fun z => absurd z (no _ _ _ _), fun z => absurd z (no _ _ _ _)⟩
/-- the row behind the first m news -/
def bgN (Hm : Nat → Nat) (r : Nat → Int32) : Nat → Nat → Int32
  | 0 => r
  | m + 1 => kfbR (Hm m) m (bgN Hm r m)
theorem bgN_col {Hm : Nat → Nat} {r : Nat → Int32} (hr : ∀ j, j < 380 → r j = 0) (hH : ∀ m, m < 4 → Hm m < 6) : ∀ m, m ≤ 4 → ∀ x y, x < 6 → y < 4 → m ≤ y → bgN Hm r m (4 * x + y) = 0
  | 0, _, x, y, hx, hy, _ => hr _ (by omega)
  | m + 1, hm, x, y, hx, hy, h => by
    have := hH m (by omega)
    unfold bgN kfbR
    rw [upd_ne (by omega), upd_ne (by omega), upd_ne (by omega), upd_ne (by omega)]
    exact bgN_col hr hH m (by omega) x y hx hy (by omega)
theorem beginC_eq {w t M : Nat} {Hm : Nat → Nat} {σ : hSt} {r : Nat → Int32} (hP : HC σ.2.2) (ht : okr kC NC 7 t = true) (hw : okr kC NC 10 w = true) (htw : t + 17 ≤ w) (hM : σ.1 t 3 = nI M) (hM4 : M ≤ 4) (hH : ∀ m, m < 4 → Hm m < 6) (hh : ∀ m, m < M → σ.1 (t + 3) m = nI (Hm m)) (hr : ∀ j, j < 380 → r j = 0) :
    ∃ σ', F_X10_begin w t σ = some σ' ∧ σ'.2 = σ.2 ∧ (∀ k, ¬ (w ≤ k ∧ k < w + 4) → σ'.1 k = σ.1 k) ∧ RW σ'.1 w (bgN Hm r M) 0 := by
  have goal : ∃ σ', F_X10_begin_47 w t 0 (z0C w σ) = some σ' ∧ (σ'.2 = σ.2 ∧ (∀ k, ¬ (w ≤ k ∧ k < w + 4) → σ'.1 k = σ.1 k) ∧ RW σ'.1 w (bgN Hm r M) 0) := by
    unfold F_X10_begin_47
    refine lp_go M (by rw [fuel_v]; omega) (fun m v => v.1 = nI m ∧ v.2.2 = σ.2 ∧ (∀ k, ¬ (w ≤ k ∧ k < w + 4) → v.2.1 k = σ.1 k) ∧ v.2.1 w 2 = 0 ∧ RW v.2.1 w (bgN Hm r m) 0) _ ⟨rfl, rfl, fun k a => z0C_row (by omega), z0C_w 2 (by decide), z0_keep hr⟩ (fun m v hm hv => ?_)
    obtain ⟨l2, s⟩ := v
    obtain ⟨q1, q2, q3, q4, q5⟩ := hv
    dsimp only at q1 q2 q3 q4 q5
    subst q1
    have hPs : HC s.2.2 := by rw [q2]; exact hP
    unfold S_X10_begin_47 F_X10_begin_47b
    dsimp only
    rw [q3 t (by omega), hM]
    by_cases hlt : m < M
    · left
      rw [if_neg (nI_ge hlt (by omega)), rC_7_4 hPs ht, cG_t (inb_nI (by rw [nC_7_4 ht]; omega) (by rw [nC_7_4 ht]; decide)), cl_nI (by omega), q3 (t + 3) (by omega), hh m hlt, beginAt_eq hPs hw (hH m (by omega)) (by omega)]
      refine ⟨(nI (m + 1), bgC w (Hm m) m s), hlt, ?_, rfl, ?_, fun k a => ?_, ?_, ?_⟩
      · rw [← nI_1]; rfl
      · exact q2
      · exact (bgC_row (by omega) (by omega) (by omega)).trans (q3 k a)
      · exact (bgC_w (by decide)).trans q4
      · exact bg_RW q5 (hH m (by omega)) (by omega) (fun x hx => by rw [q4, bt_0]) (kfb_bgR (hH m (by omega)) (by omega) (fun x hx _ => bgN_col hr hH m (by omega) x m hx (by omega) (Nat.le_refl _)))
    · right
      have : m = M := by omega
      subst this
      rw [if_pos (nI_le (Nat.le_refl _) (by omega))]
      exact ⟨s, rfl, q2, q3, q5⟩
  exact goal
