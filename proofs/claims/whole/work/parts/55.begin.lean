/-! ===== PURE 20: the news at its home at the beginning ===== -/
theorem bt_63s : ∀ m, m < 4 → ∀ i, i < 32 → bt ((63 : Int32) <<< (nI (6 * m) &&& 31)) i = (decide (6 * m ≤ i) && decide (i < 6 * m + 6)) := by decide +kernel
/-- the world where hill h alone knows news m, from the beginning -/
def bgC (w h m : Nat) (σ : hSt) : hSt := uI (uI (uI σ w 1 (((σ.1 w 1) &&& (((63 : Int32) <<< (nI (6 * m) &&& 31)) ^^^ (-1 : Int32))) ||| ((1 : Int32) <<< (nI (6 * m + h) &&& 31)))) (w + 1) (6 * m + h) 0) (w + 2) (6 * m + h) (nI h)
theorem beginAt_eq {w h m : Nat} {σ : hSt} (hP : HC σ.2.2) (hw : okr kC NC 10 w = true) (hh : h < 6) (hm : m < 4) : F_X10_beginAt w (nI h) (nI m) σ = some (bgC w h m σ) := by
  unfold F_X10_beginAt
  rw [pairOf_eq]
  simp only [Option.bind_some]
  unfold cL
  dsimp only
  simp only [uI_2]
  rw [rC_10_9 hP hw, cG_t (inb_nI (by rw [nC_10_9 hw]; omega) (by rw [nC_10_9 hw]; decide)), rC_10_10 hP hw, cG_t (inb_nI (by rw [nC_10_10 hw]; omega) (by rw [nC_10_10 hw]; decide)), cl_nI (by omega), show (6 : Int32) = nI 6 from rfl, pk_mul]
  rfl
theorem bgC_row {w h m k : Nat} {σ : hSt} (a : k ≠ w) (b : k ≠ w + 1) (c : k ≠ w + 2) : (bgC w h m σ).1 k = σ.1 k := by
  unfold bgC
  rw [uI_row _ _ c, uI_row _ _ b, uI_row _ _ a]
theorem bgC_w {w h m k : Nat} {σ : hSt} (a : k ≠ 1) : (bgC w h m σ).1 w k = σ.1 w k := by
  unfold bgC
  rw [uI_ne _ _ (by omega), uI_ne _ _ (by omega), uI_ne _ _ (by omega)]
theorem bgC_b {w h m i : Nat} {σ : hSt} (hh : h < 6) (hm : m < 4) (hi : i < 32) : bt ((bgC w h m σ).1 w 1) i = ((bt (σ.1 w 1) i && !(decide (6 * m ≤ i) && decide (i < 6 * m + 6))) || decide (i = 6 * m + h)) := by
  unfold bgC
  rw [uI_ne _ _ (by omega), uI_ne _ _ (by omega), uI_I, if_pos ⟨rfl, rfl⟩, bt_or, bt_and, bt_xor, bt_63s m hm i hi, bt_m1 hi, bt_pow (by omega) hi, Bool.xor_true]
theorem bgC_1 {w h m i : Nat} {σ : hSt} : (bgC w h m σ).1 (w + 1) i = if i = 6 * m + h then 0 else σ.1 (w + 1) i := by
  unfold bgC
  rw [uI_ne _ _ (by omega), uI_I]
  by_cases q : i = 6 * m + h
  · rw [if_pos q, if_pos ⟨rfl, q⟩]
  · rw [if_neg q, if_neg (fun z => q z.2), uI_ne _ _ (by omega)]
theorem bgC_2 {w h m i : Nat} {σ : hSt} : (bgC w h m σ).1 (w + 2) i = if i = 6 * m + h then nI h else σ.1 (w + 2) i := by
  unfold bgC
  rw [uI_I]
  by_cases q : i = 6 * m + h
  · rw [if_pos q, if_pos ⟨rfl, q⟩]
  · rw [if_neg q, if_neg (fun z => q z.2), uI_ne _ _ (by omega), uI_ne _ _ (by omega)]
/-- the row r' is r where hill h alone knows news m, from the beginning -/
def bgR (h m : Nat) (r r' : Nat → Int32) : Prop :=
  (∀ j, 96 ≤ j → r' j = r j) ∧ (∀ x y, x < 6 → y < 4 → y ≠ m → r' (4 * x + y) = r (4 * x + y) ∧ r' (24 + (4 * x + y)) = r (24 + (4 * x + y)) ∧ r' (48 + (4 * x + y)) = r (48 + (4 * x + y)) ∧ r' (72 + (4 * x + y)) = r (72 + (4 * x + y))) ∧
  (∀ x, x < 6 → x ≠ h → r' (4 * x + m) = 0) ∧ r' (4 * h + m) = 1 ∧ r' (24 + (4 * h + m)) = 0 ∧ r' (48 + (4 * h + m)) = nI h ∧ r' (72 + (4 * h + m)) = 0
theorem bg_keep {w h m : Nat} {σ : hSt} {r r' : Nat → Int32} (hR : RWp σ.1 w r) (hh : h < 6) (hm : m < 4) (h2 : ∀ x, x < 6 → bt (σ.1 w 2) (6 * m + x) = false) (hb : bgR h m r r') : RWp (bgC w h m σ).1 w r' := by
  obtain ⟨a, b, c, d⟩ := hR
  obtain ⟨b1, b2, b3, b4, b5, b6, b7⟩ := hb
  refine ⟨by rw [bgC_w (by decide), b1 _ (by decide)]; exact a, by rw [bgC_w (by decide), b1 _ (by decide)]; exact b, fun i hi hi2 => ?_, fun x y hx hy => ?_⟩
  · rw [bgC_b hh hm hi2, c i hi hi2]
    have : ¬ i = 6 * m + h := by omega
    simp [this]
  · obtain ⟨d1, d2, d3, d4⟩ := d x y hx hy
    unfold RWq
    rw [bgC_w (k := 2) (by decide), bgC_w (k := 5) (by decide), bgC_w (k := 6) (by decide), b1 (96 + (4 * x + y)) (by omega), bgC_1, bgC_2, bgC_b hh hm (by omega)]
    by_cases hy2 : y = m
    · subst hy2
      have i1 : 6 * y ≤ 6 * y + x := by omega
      have i2 : 6 * y + x < 6 * y + 6 := by omega
      by_cases hx2 : x = h
      · subst hx2
        rw [b4, b5, b6, b7, h2 x hx]
        exact ⟨by simp, fun _ => ⟨by simp, by simp, by simp⟩, d3, fun _ => by simp⟩
      · have i3 : ¬ 6 * y + x = 6 * y + h := by omega
        rw [b3 x hx hx2]
        simp only [i1, i2, i3, decide_true, decide_false, Bool.and_true, Bool.not_true, Bool.and_false, Bool.or_false, h2 x hx]
        exact ⟨rfl, fun q => absurd q (by decide), d3, fun _ => trivial⟩
    · obtain ⟨e1, e2, e3, e4⟩ := b2 x y hx hy hy2
      have i3 : ¬ 6 * y + x = 6 * m + h := by omega
      have i4 : (decide (6 * m ≤ 6 * y + x) && decide (6 * y + x < 6 * m + 6)) = false := by
        by_cases q : 6 * m ≤ 6 * y + x
        · have : ¬ 6 * y + x < 6 * m + 6 := by omega
          simp [this]
        · simp [q]
      rw [e1, e2, e3, e4, i4, if_neg i3, if_neg i3]
      simp only [i3, decide_false, Bool.not_false, Bool.and_true, Bool.or_false]
      exact ⟨d1, d2, d3, d4⟩
