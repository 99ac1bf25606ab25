/-! ===== PURE 9: a drum of the day keeps the worlds side by side ===== -/
def RW (I : Nat → Nat → Int32) (w : Nat) (r : Nat → Int32) (t : Nat) : Prop := RWp I w r ∧ RWt I w r t
theorem RWp_congr {I I' : Nat → Nat → Int32} {w : Nat} {r r' : Nat → Int32} (h : RWp I w r) (hI : ∀ k, k ≠ 3 → k ≠ 4 → k ≠ 7 → I' w k = I w k) (h1 : I' (w + 1) = I (w + 1)) (h2 : I' (w + 2) = I (w + 2)) (hr : ∀ j, j < 130 → j ≠ 121 → r' j = r j) : RWp I' w r' := by
  obtain ⟨a, b, c, d⟩ := h
  refine ⟨?_, ?_, fun i hi hi2 => ?_, fun x y hx hy => ?_⟩
  · rw [hI 0 (by decide) (by decide) (by decide), hr 120 (by decide) (by decide)]; exact a
  · rw [hI 8 (by decide) (by decide) (by decide), hr 122 (by decide) (by decide)]; exact b
  · rw [hI 1 (by decide) (by decide) (by decide)]; exact c i hi hi2
  · obtain ⟨a1, a2, a3, a4⟩ := d x y hx hy
    unfold RWq
    rw [hI 1 (by decide) (by decide) (by decide), hI 2 (by decide) (by decide) (by decide), hI 5 (by decide) (by decide) (by decide), hI 6 (by decide) (by decide) (by decide), h1, h2,
      hr (4 * x + y) (by omega) (by omega), hr (24 + (4 * x + y)) (by omega) (by omega), hr (48 + (4 * x + y)) (by omega) (by omega), hr (72 + (4 * x + y)) (by omega) (by omega), hr (96 + (4 * x + y)) (by omega) (by omega)]
    exact ⟨a1, a2, a3, a4⟩
theorem dayC_w {w t h m c E : Nat} {σ : hSt} (k : Nat) (hk : k ≠ 7) : (dayC w t h m c E σ).1 w k = if c = 0 then (if k = 3 then σ.1 w 3 ||| othC h m (nI E) else σ.1 w k) else if k = 4 then σ.1 w 4 ||| othC h m (nI E) else σ.1 w k := by
  unfold dayC
  dsimp only
  by_cases hc : c = 0
  · rw [if_pos hc, if_pos hc]
    by_cases h3 : k = 3
    · subst h3; rw [if_pos rfl, uI_I, if_pos ⟨rfl, rfl⟩]
    · rw [if_neg h3, uI_ne _ _ (by omega), uI_ne _ _ (by omega), uI_ne _ _ (by omega)]
  · rw [if_neg hc, if_neg hc]
    by_cases h3 : k = 4
    · subst h3; rw [if_pos rfl, uI_I, if_pos ⟨rfl, rfl⟩]
    · rw [if_neg h3, uI_ne _ _ (by omega), uI_ne _ _ (by omega), uI_ne _ _ (by omega)]
theorem dayC_7 {w t h m c E : Nat} {σ : hSt} : (dayC w t h m c E σ).1 w 7 = nI (t + 1) := by
  unfold dayC
  dsimp only
  split <;> (rw [uI_ne _ _ (by omega), uI_I, if_pos ⟨rfl, rfl⟩])
theorem dayC_row {w t h m c E k : Nat} {σ : hSt} (h0 : k ≠ w) (h3 : k ≠ w + 3) : (dayC w t h m c E σ).1 k = σ.1 k := by
  unfold dayC
  dsimp only
  split <;> (rw [uI_row _ _ h0, uI_row _ _ h0, uI_row _ _ h3])
theorem dayC_3 {w t h m c E : Nat} {σ : hSt} (i : Nat) : (dayC w t h m c E σ).1 (w + 3) i = if i = t then nI (E * 128 + c * 64 + m * 8 + h) else σ.1 (w + 3) i := by
  unfold dayC
  dsimp only
  split <;> (rw [uI_ne _ _ (by omega), uI_ne _ _ (by omega), uI_I]; simp)
theorem rowDS_hi {t h m H j : Nat} {d e : Int32} {r : Nat → Int32} (hm : m < 4) (hH : H ≤ 6) (hj : 120 ≤ j) (h2 : j ≠ 122) : rowDS t h m d e H r j = rowD t h m d e r j := by
  unfold rowDS
  rw [upd_ne h2, spN_hi hm hj H hH]
theorem rowD_old {t h m i o : Nat} {d e : Int32} {r : Nat → Int32} (hi : i < t) (ho : o < 4) : rowD t h m d e r (130 + 4 * i + o) = r (130 + 4 * i + o) := by
  unfold rowD
  rw [upd_ne (by omega), upd_ne (by omega), upd_ne (by omega), upd_ne (by omega), upd_ne (by omega)]
theorem rowD_new {t h m : Nat} {d e : Int32} {r : Nat → Int32} : rowD t h m d e r (130 + 4 * t) = nI h ∧ rowD t h m d e r (130 + 4 * t + 1) = nI m ∧ rowD t h m d e r (130 + 4 * t + 2) = d ∧ rowD t h m d e r (130 + 4 * t + 3) = e ∧ rowD t h m d e r 121 = nI (t + 1) := by
  unfold rowD
  refine ⟨?_, ?_, ?_, ?_, ?_⟩
  · rw [upd_ne (by omega), upd_ne (by omega), upd_ne (by omega), upd_ne (by omega), upd_eq]
  · rw [upd_ne (by omega), upd_ne (by omega), upd_ne (by omega), upd_eq]
  · rw [upd_ne (by omega), upd_ne (by omega), upd_eq]
  · rw [upd_ne (by omega), upd_eq]
  · rw [upd_eq]
theorem day_keep {w h m c E H t : Nat} {σ : hSt} {r : Nat → Int32} (hW : RW σ.1 w r t) (hh : h < 6) (hm : m < 4) (hc : c < 2) (hE : E < 64) (hH : H ≤ 6) (he : ∀ b, b < 32 → bt (nI E) b = true → b < H) (ht : t < 60) :
    RW (sndC w h m (nI c) (nI E) (dayC w t h m c E σ)).1 w (rowDS t h m (nI c) (nI E) H r) (t + 1) := by
  obtain ⟨hp, h7, h121, -, hdr, hS, hD⟩ := hW
  have hcd : nI c = 0 ∨ nI c = 1 := by
    rcases (show c = 0 ∨ c = 1 by omega) with q | q
    · subst q
      exact Or.inl rfl
    · subst q
      exact Or.inr rfl
  have hp1 : RWp (dayC w t h m c E σ).1 w (rowD t h m (nI c) (nI E) r) := by
    refine RWp_congr hp (fun k h3 h4 h7 => ?_) (dayC_row (by omega) (by omega)) (dayC_row (by omega) (by omega)) (fun j hj h1 => rowD_lo hj h1)
    rw [dayC_w k h7]
    rw [if_neg h3, if_neg h4, ite_self]
  have hp2 := snd_keep (h := h) (m := m) (d := nI c) (e := nI E) (H := H) hp1 hh hm hcd hH he
  rw [rowD_lo (by decide) (by decide)] at hp2
  refine ⟨hp2, ?_⟩
  have hi : ∀ j, 120 ≤ j → j ≠ 122 → rowDS t h m (nI c) (nI E) H r j = rowD t h m (nI c) (nI E) r j := fun j a b => rowDS_hi hm hH a b
  obtain ⟨n0, n1, n2, n3, n4⟩ := rowD_new (t := t) (h := h) (m := m) (d := nI c) (e := nI E) (r := r)
  have kw : ∀ k, k = 3 ∨ k = 4 ∨ k = 7 → (sndC w h m (nI c) (nI E) (dayC w t h m c E σ)).1 w k = (dayC w t h m c E σ).1 w k := fun k hk => by
    rw [snd_w]
    have : k ≠ 1 ∧ k ≠ 8 ∧ k ≠ 5 ∧ k ≠ 6 ∧ k ≠ 2 := by omega
    simp [this]
  have k3 : (sndC w h m (nI c) (nI E) (dayC w t h m c E σ)).1 (w + 3) = (dayC w t h m c E σ).1 (w + 3) := snd_row (by omega) (by omega) (by omega)
  have hrdo : ∀ i x, i < t → (hrd (rowDS t h m (nI c) (nI E) H r) i x ↔ hrd r i x) := fun i x hi' => by
    have a0 := rowD_old (h := h) (m := m) (d := nI c) (e := nI E) (r := r) hi' (o := 0) (by decide)
    rw [Nat.add_zero] at a0
    unfold hrd
    rw [hi _ (by omega) (by omega), hi _ (by omega) (by omega), a0, rowD_old hi' (by decide)]
  have hrdno : ∀ i x y d, i < t → (hrdN (rowDS t h m (nI c) (nI E) H r) i x y d ↔ hrdN r i x y d) := fun i x y d hi' => by
    unfold hrdN
    rw [hrdo i x hi', hi _ (by omega) (by omega), hi _ (by omega) (by omega), rowD_old hi' (by decide), rowD_old hi' (by decide)]
  have hrdnn : ∀ x y d, x < 6 → y < 4 → (hrdN (rowDS t h m (nI c) (nI E) H r) t x y d ↔ (inK h m (nI E) H x y ∧ nI c = d)) := fun x y d hx hy => by
    unfold hrdN hrd inK hitB
    rw [hi _ (by omega) (by omega), hi _ (by omega) (by omega), hi _ (by omega) (by omega), hi _ (by omega) (by omega), n0, n1, n2, n3]
    simp only [Bool.and_eq_true, decide_eq_true_eq]
    constructor
    · rintro ⟨⟨q1, q2⟩, q3, q4⟩
      exact ⟨⟨((nI_eq (by omega) (by omega)).mp q3).symm, he x (by omega) q2, q2, fun z => q1 (by rw [z])⟩, q4⟩
    · rintro ⟨⟨q1, q2, q3, q4⟩, q5⟩
      exact ⟨⟨fun z => q4 ((nI_eq (by omega) (by omega)).mp z).symm, q3⟩, by rw [q1], q5⟩
  have split' : ∀ x y d, (∃ i, i < t + 1 ∧ hrdN (rowDS t h m (nI c) (nI E) H r) i x y d) ↔ ((∃ i, i < t ∧ hrdN r i x y d) ∨ hrdN (rowDS t h m (nI c) (nI E) H r) t x y d) := fun x y d => by
    constructor
    · rintro ⟨i, hi', q⟩
      by_cases e : i = t
      · subst e; exact Or.inr q
      · exact Or.inl ⟨i, by omega, (hrdno i x y d (by omega)).mp q⟩
    · rintro (⟨i, hi', q⟩ | q)
      · exact ⟨i, by omega, (hrdno i x y d hi').mpr q⟩
      · exact ⟨t, by omega, q⟩
  refine ⟨?_, ?_, by omega, fun i hi' => ?_, fun x y hx hy => ?_, fun x y hx hy => ?_⟩
  · rw [kw 7 (by omega), dayC_7]
  · rw [hi _ (by decide) (by decide), n4]
  · rw [k3, dayC_3]
    by_cases e : i = t
    · subst e
      rw [if_pos rfl]
      exact ⟨h, m, c, E, hh, hm, hc, hE, by rw [hi _ (by omega) (by omega), n0], by rw [hi _ (by omega) (by omega), n1], by rw [hi _ (by omega) (by omega), n2], by rw [hi _ (by omega) (by omega), n3], rfl⟩
    · rw [if_neg e]
      have hit : i < t := by omega
      obtain ⟨a, b, c', e', q1, q2, q3, q4, q5, q6, q7, q8, q9⟩ := hdr i hit
      have a0 := rowD_old (h := h) (m := m) (d := nI c) (e := nI E) (r := r) hit (o := 0) (by decide)
      rw [Nat.add_zero] at a0
      exact ⟨a, b, c', e', q1, q2, q3, q4, by rw [hi _ (by omega) (by omega), a0, q5], by rw [hi _ (by omega) (by omega), rowD_old hit (by decide), q6], by rw [hi _ (by omega) (by omega), rowD_old hit (by decide), q7], by rw [hi _ (by omega) (by omega), rowD_old hit (by decide), q8], q9⟩
  · rw [kw 3 (by omega), dayC_w 3 (by decide), split', hrdnn x y 0 hx hy, ← hS x y hx hy]
    have ho := oth_inK (e := nI E) hh hm hx hy hH he
    rcases (show c = 0 ∨ c = 1 by omega) with q | q <;> subst q
    · rw [if_pos rfl, if_pos rfl, bt_or, Bool.or_eq_true, ho]
      exact ⟨fun z => z.elim Or.inl (fun z => Or.inr ⟨z, rfl⟩), fun z => z.elim Or.inl (fun z => Or.inr z.1)⟩
    · rw [if_neg (by decide), if_neg (by decide)]
      exact ⟨Or.inl, fun z => z.elim id (fun z => absurd z.2 (by decide))⟩
  · rw [kw 4 (by omega), dayC_w 4 (by decide), split', hrdnn x y 1 hx hy, ← hD x y hx hy]
    have ho := oth_inK (e := nI E) hh hm hx hy hH he
    rcases (show c = 0 ∨ c = 1 by omega) with q | q <;> subst q
    · rw [if_pos rfl, if_neg (by decide)]
      exact ⟨Or.inl, fun z => z.elim id (fun z => absurd z.2 (by decide))⟩
    · rw [if_neg (by decide), if_pos rfl, bt_or, Bool.or_eq_true, ho]
      exact ⟨fun z => z.elim Or.inl (fun z => Or.inr ⟨z, rfl⟩), fun z => z.elim Or.inl (fun z => Or.inr z.1)⟩
