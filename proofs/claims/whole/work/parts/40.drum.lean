/-! ===== PURE 5: the worlds of both, side by side; a drum keeps them so ===== -/
theorem ix4 {b m x y : Nat} (hm : m < 4) (hy : y < 4) : 4 * b + m = 4 * x + y ↔ b = x ∧ m = y := ⟨fun h => ⟨by omega, by omega⟩, fun h => by omega⟩
theorem spQ_lo {m b j : Nat} {d : Int32} {r : Nat → Int32} (hj : j < 96) : spQ m d b r j = r j := by unfold spQ; rw [upd_ne (by omega)]
theorem sp1_A {h m b x y : Nat} {d : Int32} {r : Nat → Int32} (hb : b < 6) (hm : m < 4) (hx : x < 6) (hy : y < 4) : sp1 h m d b r (4 * x + y) = if b = x ∧ m = y then 1 else r (4 * x + y) := by
  unfold sp1
  by_cases hq : (spQ m d b r) (4 * b + m) = 1
  · rw [if_pos hq, spQ_lo (by omega)]
    rw [spQ_lo (by omega)] at hq
    by_cases e : b = x ∧ m = y
    · rw [if_pos e, ← e.1, ← e.2, hq]
    · rw [if_neg e]
  · rw [if_neg hq, upd_ne (by omega), upd_ne (by omega), upd_ne (by omega)]
    by_cases e : b = x ∧ m = y
    · rw [if_pos e, ← e.1, ← e.2, upd_eq]
    · rw [if_neg e, upd_ne (fun q => e ((ix4 hm hy).mp q.symm)), spQ_lo (by omega)]
theorem sp1_B {h m b x y : Nat} {d : Int32} {r : Nat → Int32} (hb : b < 6) (hm : m < 4) (hx : x < 6) (hy : y < 4) : sp1 h m d b r (24 + (4 * x + y)) = if (b = x ∧ m = y) ∧ ¬ r (4 * x + y) = 1 then r 120 else r (24 + (4 * x + y)) := by
  unfold sp1
  by_cases hq : (spQ m d b r) (4 * b + m) = 1
  · rw [if_pos hq, spQ_lo (by omega), if_neg]
    rw [spQ_lo (by omega)] at hq
    rintro ⟨⟨e1, e2⟩, e3⟩
    subst e1; subst e2
    exact e3 hq
  · rw [if_neg hq, upd_ne (by omega), upd_ne (by omega)]
    rw [spQ_lo (by omega)] at hq
    by_cases e : b = x ∧ m = y
    · obtain ⟨e1, e2⟩ := e
      subst e1; subst e2
      rw [if_pos ⟨⟨rfl, rfl⟩, hq⟩, upd_eq]
    · rw [if_neg (fun z => e z.1), upd_ne (fun q => e ((ix4 hm hy).mp (by omega))), upd_ne (by omega), spQ_lo (by omega)]
theorem sp1_C {h m b x y : Nat} {d : Int32} {r : Nat → Int32} (hb : b < 6) (hm : m < 4) (hx : x < 6) (hy : y < 4) : sp1 h m d b r (48 + (4 * x + y)) = if (b = x ∧ m = y) ∧ ¬ r (4 * x + y) = 1 then nI h else r (48 + (4 * x + y)) := by
  unfold sp1
  by_cases hq : (spQ m d b r) (4 * b + m) = 1
  · rw [if_pos hq, spQ_lo (by omega), if_neg]
    rw [spQ_lo (by omega)] at hq
    rintro ⟨⟨e1, e2⟩, e3⟩
    subst e1; subst e2
    exact e3 hq
  · rw [if_neg hq, upd_ne (by omega)]
    rw [spQ_lo (by omega)] at hq
    by_cases e : b = x ∧ m = y
    · obtain ⟨e1, e2⟩ := e
      subst e1; subst e2
      rw [if_pos ⟨⟨rfl, rfl⟩, hq⟩, upd_eq]
    · rw [if_neg (fun z => e z.1), upd_ne (fun q => e ((ix4 hm hy).mp (by omega))), upd_ne (by omega), upd_ne (by omega), spQ_lo (by omega)]
theorem sp1_D {h m b x y : Nat} {d : Int32} {r : Nat → Int32} (hb : b < 6) (hm : m < 4) (hx : x < 6) (hy : y < 4) : sp1 h m d b r (72 + (4 * x + y)) = if (b = x ∧ m = y) ∧ ¬ r (4 * x + y) = 1 then d else r (72 + (4 * x + y)) := by
  unfold sp1
  by_cases hq : (spQ m d b r) (4 * b + m) = 1
  · rw [if_pos hq, spQ_lo (by omega), if_neg]
    rw [spQ_lo (by omega)] at hq
    rintro ⟨⟨e1, e2⟩, e3⟩
    subst e1; subst e2
    exact e3 hq
  · rw [if_neg hq]
    rw [spQ_lo (by omega)] at hq
    by_cases e : b = x ∧ m = y
    · obtain ⟨e1, e2⟩ := e
      subst e1; subst e2
      rw [if_pos ⟨⟨rfl, rfl⟩, hq⟩, upd_eq]
    · rw [if_neg (fun z => e z.1), upd_ne (fun q => e ((ix4 hm hy).mp (by omega))), upd_ne (by omega), upd_ne (by omega), upd_ne (by omega), spQ_lo (by omega)]
theorem sp1_E {h m b x y : Nat} {d : Int32} {r : Nat → Int32} (hb : b < 6) (hm : m < 4) (hx : x < 6) (hy : y < 4) : sp1 h m d b r (96 + (4 * x + y)) = if b = x ∧ m = y then r (96 + (4 * x + y)) ||| (if d = 1 then 2 else 1) else r (96 + (4 * x + y)) := by
  have key : spQ m d b r (96 + (4 * x + y)) = if b = x ∧ m = y then r (96 + (4 * x + y)) ||| (if d = 1 then 2 else 1) else r (96 + (4 * x + y)) := by
    unfold spQ
    by_cases e : b = x ∧ m = y
    · obtain ⟨e1, e2⟩ := e
      subst e1; subst e2
      rw [upd_eq, if_pos (show b = b ∧ m = m from ⟨rfl, rfl⟩)]
    · rw [upd_ne (fun q => e ((ix4 hm hy).mp (by omega))), if_neg e]
  unfold sp1
  by_cases hq : (spQ m d b r) (4 * b + m) = 1
  · rw [if_pos hq, key]
  · rw [if_neg hq, upd_ne (by omega), upd_ne (by omega), upd_ne (by omega), upd_ne (by omega), key]
def inK (h m : Nat) (e : Int32) (K x y : Nat) : Prop := y = m ∧ x < K ∧ hitB h e x = true
theorem spN_A {h m : Nat} {d e : Int32} {r : Nat → Int32} {x y : Nat} (hm : m < 4) (hx : x < 6) (hy : y < 4) : ∀ K, K ≤ 6 →
    (spN h m d e r K (4 * x + y) = r (4 * x + y) ∧ ¬ inK h m e K x y ∨ spN h m d e r K (4 * x + y) = 1 ∧ inK h m e K x y)
  | 0, _ => Or.inl ⟨rfl, fun q => absurd q.2.1 (Nat.not_lt_zero _)⟩
  | K + 1, hK => by
    have ih := spN_A (h := h) (d := d) (e := e) (r := r) hm hx hy K (by omega)
    unfold spN
    by_cases ht : hitB h e K = true
    · rw [if_pos ht, sp1_A (by omega) hm hx hy]
      by_cases e1 : K = x ∧ m = y
      · rw [if_pos e1]
        exact Or.inr ⟨rfl, e1.2.symm, by omega, by rw [← e1.1]; exact ht⟩
      · rw [if_neg e1]
        rcases ih with ⟨a, b⟩ | ⟨a, b⟩
        · exact Or.inl ⟨a, fun q => b ⟨q.1, by have := q.2.1; have := q.1; omega, q.2.2⟩⟩
        · exact Or.inr ⟨a, b.1, by have := b.2.1; omega, b.2.2⟩
    · rw [if_neg ht]
      rcases ih with ⟨a, b⟩ | ⟨a, b⟩
      · refine Or.inl ⟨a, fun q => b ⟨q.1, ?_, q.2.2⟩⟩
        have h1 := q.2.1
        by_cases hxk : x = K
        · subst hxk; exact absurd q.2.2 ht
        · omega
      · exact Or.inr ⟨a, b.1, by have := b.2.1; omega, b.2.2⟩
theorem spN_X {h m : Nat} {d e : Int32} {r : Nat → Int32} {x y o : Nat} {v : Int32} (hm : m < 4) (hx : x < 6) (hy : y < 4)
    (h1 : ∀ b (r' : Nat → Int32), b < 6 → r' 120 = r 120 → sp1 h m d b r' (o + (4 * x + y)) = if (b = x ∧ m = y) ∧ ¬ r' (4 * x + y) = 1 then v else r' (o + (4 * x + y))) : ∀ K, K ≤ 6 →
    (spN h m d e r K (o + (4 * x + y)) = r (o + (4 * x + y)) ∧ ¬ (inK h m e K x y ∧ ¬ r (4 * x + y) = 1) ∨ spN h m d e r K (o + (4 * x + y)) = v ∧ inK h m e K x y ∧ ¬ r (4 * x + y) = 1)
  | 0, _ => Or.inl ⟨rfl, fun q => absurd q.1.2.1 (Nat.not_lt_zero _)⟩
  | K + 1, hK => by
    have ih := spN_X (e := e) hm hx hy h1 K (by omega)
    have ihA := spN_A (h := h) (d := d) (e := e) (r := r) hm hx hy K (by omega)
    have lt' : ∀ {a b : Nat}, a < b → a < b + 1 := fun h => by omega
    unfold spN
    by_cases ht : hitB h e K = true
    · rw [if_pos ht, h1 K _ (by omega) (spN_hi hm (by omega) K (by omega))]
      by_cases e1 : K = x ∧ m = y
      · have hn : ¬ inK h m e K x y := fun q => by have := q.2.1; omega
        rcases ihA with ⟨a, b⟩ | ⟨a, b⟩
        · rcases ih with ⟨c, d'⟩ | ⟨c, d', _⟩
          · by_cases h2 : r (4 * x + y) = 1
            · rw [if_neg (fun q => q.2 (by rw [a]; exact h2))]
              exact Or.inl ⟨c, fun q => q.2 h2⟩
            · rw [if_pos ⟨e1, by rw [a]; exact h2⟩]
              exact Or.inr ⟨rfl, ⟨e1.2.symm, by omega, by rw [← e1.1]; exact ht⟩, h2⟩
          · exact absurd d' hn
        · exact absurd b hn
      · rw [if_neg (fun q => e1 q.1)]
        rcases ih with ⟨c, d'⟩ | ⟨c, d', d2⟩
        · exact Or.inl ⟨c, fun q => d' ⟨⟨q.1.1, by have := q.1.2.1; have := q.1.1; omega, q.1.2.2⟩, q.2⟩⟩
        · exact Or.inr ⟨c, ⟨d'.1, lt' d'.2.1, d'.2.2⟩, d2⟩
    · rw [if_neg ht]
      rcases ih with ⟨c, d'⟩ | ⟨c, d', d2⟩
      · refine Or.inl ⟨c, fun q => d' ⟨⟨q.1.1, ?_, q.1.2.2⟩, q.2⟩⟩
        have h1 := q.1.2.1
        by_cases hxk : x = K
        · subst hxk; exact absurd q.1.2.2 ht
        · omega
      · exact Or.inr ⟨c, ⟨d'.1, lt' d'.2.1, d'.2.2⟩, d2⟩
theorem spN_E {h m : Nat} {d e : Int32} {r : Nat → Int32} {x y : Nat} (hm : m < 4) (hx : x < 6) (hy : y < 4) : ∀ K, K ≤ 6 →
    (spN h m d e r K (96 + (4 * x + y)) = r (96 + (4 * x + y)) ∧ ¬ inK h m e K x y ∨ spN h m d e r K (96 + (4 * x + y)) = (r (96 + (4 * x + y)) ||| (if d = 1 then 2 else 1)) ∧ inK h m e K x y)
  | 0, _ => Or.inl ⟨rfl, fun q => absurd q.2.1 (Nat.not_lt_zero _)⟩
  | K + 1, hK => by
    have ih := spN_E (h := h) (d := d) (e := e) (r := r) hm hx hy K (by omega)
    unfold spN
    by_cases ht : hitB h e K = true
    · rw [if_pos ht, sp1_E (by omega) hm hx hy]
      by_cases e1 : K = x ∧ m = y
      · have hn : ¬ inK h m e K x y := fun q => by have := q.2.1; omega
        rw [if_pos e1]
        rcases ih with ⟨a, b⟩ | ⟨a, b⟩
        · exact Or.inr ⟨by rw [a], e1.2.symm, by omega, by rw [← e1.1]; exact ht⟩
        · exact absurd b hn
      · rw [if_neg e1]
        rcases ih with ⟨a, b⟩ | ⟨a, b⟩
        · exact Or.inl ⟨a, fun q => b ⟨q.1, by have := q.2.1; have := q.1; omega, q.2.2⟩⟩
        · exact Or.inr ⟨a, b.1, by have := b.2.1; omega, b.2.2⟩
    · rw [if_neg ht]
      rcases ih with ⟨a, b⟩ | ⟨a, b⟩
      · refine Or.inl ⟨a, fun q => b ⟨q.1, ?_, q.2.2⟩⟩
        have h1 := q.2.1
        by_cases hxk : x = K
        · subst hxk; exact absurd q.2.2 ht
        · omega
      · exact Or.inr ⟨a, b.1, by have := b.2.1; omega, b.2.2⟩
/-- the worlds side by side: day, drums in all, what is known where, since when, from whom, how first; what was heard said and denied -/
def RWq (I : Nat → Nat → Int32) (w : Nat) (r : Nat → Int32) (x y : Nat) : Prop :=
  (r (4 * x + y) = if bt (I w 1) (6 * y + x) then 1 else 0) ∧
  (bt (I w 1) (6 * y + x) = true → r (24 + (4 * x + y)) = I (w + 1) (6 * y + x) ∧ r (48 + (4 * x + y)) = I (w + 2) (6 * y + x) ∧ r (72 + (4 * x + y)) = if bt (I w 2) (6 * y + x) then 1 else 0) ∧
  (r (96 + (4 * x + y)) = (if bt (I w 5) (6 * y + x) then 1 else 0) ||| (if bt (I w 6) (6 * y + x) then 2 else 0)) ∧
  (bt (I w 1) (6 * y + x) = false → bt (I w 2) (6 * y + x) = false)
def RWp (I : Nat → Nat → Int32) (w : Nat) (r : Nat → Int32) : Prop :=
  I w 0 = r 120 ∧ I w 8 = r 122 ∧ (∀ i, 24 ≤ i → i < 32 → bt (I w 1) i = false) ∧ ∀ x y, x < 6 → y < 4 → RWq I w r x y
