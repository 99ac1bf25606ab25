/-! ===== PURE 19: copies of the row in the model ===== -/
/-- f, its first n from g -/
def cpR (n : Nat) (g f : Nat → Int32) : Nat → Int32 := fun k => if k < n then g k else f k
theorem cpR_lo {n k : Nat} {g f : Nat → Int32} (h : k < n) : cpR n g f k = g k := if_pos h
theorem cpR_0 {g f : Nat → Int32} : cpR 0 g f = f := funext fun k => if_neg (by omega)
theorem cpR_s {n : Nat} {g f : Nat → Int32} : upd (cpR n g f) n (g n) = cpR (n + 1) g f := by
  funext k
  unfold upd cpR
  by_cases h : k = n
  · subst h
    rw [if_pos rfl, if_pos (by omega)]
  · rw [if_neg h]
    by_cases h2 : k < n
    · rw [if_pos h2, if_pos (by omega)]
    · rw [if_neg h2, if_neg (by omega)]
theorem keepsRow_eq {τ : hSt} (hP : HM τ.2.2) : F_X12_keepsRow 0 τ = some (uA τ 36 (cpR 380 (τ.1 37) (τ.1 36))) := by
  unfold F_X12_keepsRow F_X12_keepsRow_2
  refine lp_eq 380 (by rw [fuel_v]; decide) (fun i v => v = (nI i, uA τ 36 (cpR i (τ.1 37) (τ.1 36)))) ?_ (fun i v hi hv => ?_)
  · show (_, τ) = (nI 0, uA τ 36 (cpR 0 (τ.1 37) (τ.1 36)))
    rw [cpR_0, uA_self]
    rfl
  · subst hv
    have hP' : HM (uA τ 36 (cpR i (τ.1 37) (τ.1 36))).2.2 := hP
    unfold S_X12_keepsRow_2 F_X12_keepsRow_2b
    dsimp only
    rw [show (380 : Int32) = nI 380 from rfl]
    by_cases h : i < 380
    · left
      rw [if_neg (nI_ge h (by decide)), rM_53 hP', rM_54 hP', cG_t (inb_nI (by rw [kM_37]; omega) (by decide)), cG_t (inb_nI (by rw [kM_36]; omega) (by decide))]
      unfold cL
      dsimp only
      rw [cl_nI (by omega), uA_oth' _ _ _ (by decide), uA_uI, cpR_s, nI_1]
      exact ⟨_, h, rfl, rfl⟩
    · right
      have : i = 380 := by omega
      subst this
      rw [if_pos (nI_le (Nat.le_refl _) (by decide))]
theorem copies_eq {τ : hSt} {li : Nat} (hP : HM τ.2.2) (h18 : τ.1 0 18 = nI li) (hli : li < 2) : F_X12_copies 0 τ = some (uI (uI (uA τ 37 (cpR 380 (τ.1 36) (τ.1 37))) 0 55 (τ.1 18 li)) 0 56 (-1)) := by
  unfold F_X12_copies F_X12_copies_2
  refine lp_eq 380 (by rw [fuel_v]; decide) (fun i v => v = (nI i, uA τ 37 (cpR i (τ.1 36) (τ.1 37)))) ?_ (fun i v hi hv => ?_)
  · show (_, τ) = (nI 0, uA τ 37 (cpR 0 (τ.1 36) (τ.1 37)))
    rw [cpR_0, uA_self]
    rfl
  · subst hv
    have hP' : HM (uA τ 37 (cpR i (τ.1 36) (τ.1 37))).2.2 := hP
    unfold S_X12_copies_2 F_X12_copies_2b
    dsimp only
    rw [show (380 : Int32) = nI 380 from rfl]
    by_cases h : i < 380
    · left
      rw [if_neg (nI_ge h (by decide)), rM_54 hP', rM_53 hP', cG_t (inb_nI (by rw [kM_36]; omega) (by decide)), cG_t (inb_nI (by rw [kM_37]; omega) (by decide))]
      unfold cL
      dsimp only
      rw [cl_nI (by omega), uA_oth' _ _ _ (by decide), uA_uI, cpR_s, nI_1]
      exact ⟨_, h, rfl, rfl⟩
    · right
      have : i = 380 := by omega
      subst this
      rw [if_pos (nI_le (Nat.le_refl _) (by decide)), rM_31 hP', uA_oth' _ _ _ (by decide), h18, cG_t (inb_nI (by rw [kM_18]; omega) (by decide)), cl_nI (by omega), uA_oth' _ _ _ (by decide)]
      rfl
/-- only the first 380 of a row speak -/
theorem RW_rowlo {I : Nat → Nat → Int32} {w t : Nat} {r r' : Nat → Int32} (h : RW I w r t) (e : ∀ j, j < 380 → r' j = r j) : RW I w r' t := by
  obtain ⟨⟨a, b, c, d⟩, a7, a121, a60, f, g, k⟩ := h
  refine ⟨⟨by rw [e 120 (by decide)]; exact a, by rw [e 122 (by decide)]; exact b, c, fun x y hx hy => ?_⟩, a7, by rw [e 121 (by decide)]; exact a121, a60, fun i hi => ?_, fun x y hx hy => ?_, fun x y hx hy => ?_⟩
  · have := d x y hx hy
    unfold RWq at this ⊢
    rw [e _ (by omega), e _ (by omega), e _ (by omega), e _ (by omega), e _ (by omega)]
    exact this
  · obtain ⟨x1, x2, x3, x4, q1, q2, q3, q4, q5, q6, q7, q8, q9⟩ := f i hi
    exact ⟨x1, x2, x3, x4, q1, q2, q3, q4, by rw [e _ (by omega)]; exact q5, by rw [e _ (by omega)]; exact q6, by rw [e _ (by omega)]; exact q7, by rw [e _ (by omega)]; exact q8, q9⟩
  · rw [g x y hx hy]
    refine ⟨fun ⟨i, hi, z⟩ => ⟨i, hi, ?_⟩, fun ⟨i, hi, z⟩ => ⟨i, hi, ?_⟩⟩
    · unfold hrdN hrd at z ⊢
      rw [e _ (by omega), e _ (by omega), e _ (by omega), e _ (by omega)]; exact z
    · unfold hrdN hrd at z ⊢
      rw [e _ (by omega), e _ (by omega), e _ (by omega), e _ (by omega)] at z; exact z
  · rw [k x y hx hy]
    refine ⟨fun ⟨i, hi, z⟩ => ⟨i, hi, ?_⟩, fun ⟨i, hi, z⟩ => ⟨i, hi, ?_⟩⟩
    · unfold hrdN hrd at z ⊢
      rw [e _ (by omega), e _ (by omega), e _ (by omega), e _ (by omega)]; exact z
    · unfold hrdN hrd at z ⊢
      rw [e _ (by omega), e _ (by omega), e _ (by omega), e _ (by omega)] at z; exact z
