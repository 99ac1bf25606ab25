/-! ===== PURE 26: a term's value in the model ===== -/
/-- the pile holds the stack, its bottom at 0 -/
def PL (f : Nat → Int32) : List Int32 → Prop
  | [] => True
  | x :: st => f st.length = x ∧ PL f st
theorem PL_upd {f : Nat → Int32} {j : Nat} {x : Int32} : ∀ {st : List Int32}, st.length ≤ j → PL f st → PL (upd f j x) st
  | [], _, _ => trivial
  | y :: st, h, q => by
    have h' : st.length + 1 ≤ j := h
    exact ⟨by rw [upd_ne (by omega)]; exact q.1, PL_upd (by omega) q.2⟩
/-- the ops stand in the code from a place on -/
def mOps (τ : hSt) (a : Nat) : List (Nat × Int32) → Prop
  | [] => True
  | o :: os => τ.1 30 a = nI o.1 ∧ τ.1 31 a = o.2 ∧ (o.1 = 1 → ∃ i, i < 6 ∧ o.2 = nI i) ∧ mOps τ (a + 1) os
theorem nI_dec (k : Nat) : nI (k + 1) + (-1 : Int32) = nI k := by
  rw [← nI_1, Int32.add_assoc, show (1 : Int32) + (-1) = 0 from rfl, Int32.add_zero]
theorem stepM_0 {τ : hSt} (hP : HM τ.2.2) {to a k : Nat} {f : Nat → Int32} {n : Int32} (hto : to ≤ 840) (ha : a < to) (hk : k < 400) (m1 : τ.1 30 a = nI 0) (m2 : τ.1 31 a = n) :
    F_X12_termOf_5b 0 (nI to) (nI k) (nI a) (uA τ 34 f) = some (.inl (nI (k + 1), nI (a + 1), uA τ 34 (upd f k n))) := by
  have hP' : HM (uA τ 34 f).2.2 := hP
  unfold F_X12_termOf_5b cL
  dsimp only
  rw [if_neg (nI_ge ha (by omega)), rM_45 hP', cG_t (inb_nI (by rw [kM_30]; omega) (by decide)), cl_nI (by omega), uA_oth' _ _ _ (by decide), m1, if_neg (by decide), rM_50 hP', if_pos nI_0, rM_46 hP', cG_t (inb_nI (by rw [kM_31]; omega) (by decide)), uA_oth' _ _ _ (by decide), m2]
  unfold F_X12_termOf_58 cL
  rw [cG_t (inb_nI (by rw [kM_34]; omega) (by decide)), cl_nI (by omega), uA_uI]
  unfold F_X12_termOf_159 cL
  rw [nI_1, nI_1]
theorem stepM_1 {τ : hSt} (hP : HM τ.2.2) {to a k i : Nat} {f : Nat → Int32} (hto : to ≤ 840) (ha : a < to) (hk : k < 400) (m1 : τ.1 30 a = nI 1) (m2 : τ.1 31 a = nI i) (hi : i < 6) :
    F_X12_termOf_5b 0 (nI to) (nI k) (nI a) (uA τ 34 f) = some (.inl (nI (k + 1), nI (a + 1), uA τ 34 (upd f k (τ.1 33 i)))) := by
  have hP' : HM (uA τ 34 f).2.2 := hP
  unfold F_X12_termOf_5b cL
  dsimp only
  rw [if_neg (nI_ge ha (by omega)), rM_45 hP', cG_t (inb_nI (by rw [kM_30]; omega) (by decide)), cl_nI (by omega), uA_oth' _ _ _ (by decide), m1, if_neg (by decide), rM_50 hP', if_neg (by decide), rM_49 hP', rM_46 hP', cG_t (inb_nI (by rw [kM_31]; omega) (by decide)), uA_oth' _ _ _ (by decide), m2, cG_t (inb_nI (by rw [kM_33]; omega) (by decide)), uA_oth' _ _ _ (by decide), cl_nI (by omega)]
  unfold F_X12_termOf_58 cL
  rw [cG_t (inb_nI (by rw [kM_34]; omega) (by decide)), cl_nI (by omega), uA_uI]
  unfold F_X12_termOf_159 cL
  rw [nI_1, nI_1]
theorem stepM_go {τ : hSt} {kd k a : Nat} {f : Nat → Int32} {x y z : Int32} (hP : HM τ.2.2) (hk : k < 399) (hz : (kd = 2 ∧ z = x + y) ∨ (kd = 3 ∧ z = x - y) ∨ (kd = 4 ∧ z = x * y) ∨ (kd = 5 ∧ y ≠ 0 ∧ z = x / y)) {to : Nat} :
    F_X12_termOf_104 0 (nI to) (nI (k + 1)) (nI a) (nI kd) x y (uA τ 34 f) = some (.inl (nI (k + 1), nI (a + 1), uA τ 34 (upd f k z))) := by
  have hP' : HM (uA τ 34 f).2.2 := hP
  have fin : F_X12_termOf_158 0 (nI to) (nI (k + 1)) (nI a) 34 (nI (k + 1) - 1) z (uA τ 34 f) = some (.inl (nI (k + 1), nI (a + 1), uA τ 34 (upd f k z))) := by
    unfold F_X12_termOf_158 cL
    rw [nI_pred, cG_t (inb_nI (by rw [kM_34]; omega) (by decide)), cl_nI (by omega), uA_uI]
    unfold F_X12_termOf_159 cL
    rw [nI_1]
  unfold F_X12_termOf_104
  rw [rM_50 hP']
  rcases hz with ⟨q, e⟩ | ⟨q, e⟩ | ⟨q, e⟩ | ⟨q, q2, e⟩
  · subst q; rw [if_pos (show nI 2 = 2 from rfl), ← e]; exact fin
  · subst q; rw [if_neg (by decide), if_pos (show nI 3 = 3 from rfl), ← e]; exact fin
  · subst q; rw [if_neg (by decide), if_neg (by decide), if_pos (show nI 4 = 4 from rfl), ← e]; exact fin
  · subst q; rw [if_neg (by decide), if_neg (by decide), if_neg (by decide), cG_t (by simpa using q2), ← e]; exact fin
