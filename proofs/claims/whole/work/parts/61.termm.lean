/-! ===== PURE 26: a term's value in the model ===== -/
/-- the pile holds the stack, its bottom at 0 -/
def PL (f : Nat → Int32) : List Int32 → Prop
  | [] => True
  | x :: st => f st.length = x ∧ PL f st
theorem PL_upd {f : Nat → Int32} {j : Nat} {x : Int32} : ∀ {st : List Int32}, st.length ≤ j → PL f st → PL (upd f j x) st
  | [], _, _ => trivial
  | y :: st, h, q => by
    have h' : st.length + 1 ≤ j := h
    exact ⟨by rw [upd_ne (by omega)]; exact q.1, PL_upd (by omega) q.2⟩
/-- the ops stand in the code from a place on -/
def mOps (K I : Nat → Int32) (a : Nat) : List (Nat × Int32) → Prop
  | [] => True
  | o :: os => K a = nI o.1 ∧ I a = o.2 ∧ (o.1 = 1 → ∃ i, i < 6 ∧ o.2 = nI i) ∧ mOps K I (a + 1) os
theorem nI_dec (k : Nat) : nI (k + 1) + (-1 : Int32) = nI k := by
  rw [← nI_1, Int32.add_assoc, show (1 : Int32) + (-1) = 0 from rfl, Int32.add_zero]
theorem stepM_0 {τ : hSt} (hP : HM τ.2.2) {to a k : Nat} {f : Nat → Int32} {n : Int32} (hto : to ≤ 840) (ha : a < to) (hk : k < 400) (m1 : τ.1 30 a = nI 0) (m2 : τ.1 31 a = n) :
    F_X12_termOf_5b 0 (nI to) (nI k) (nI a) (uA τ 34 f) = some (.inl (nI (k + 1), nI (a + 1), uA τ 34 (upd f k n))) := by
  have hP' : HM (uA τ 34 f).2.2 := hP
  unfold F_X12_termOf_5b cL
  dsimp only
  rw [if_neg (nI_ge ha (by omega)), rM_45 hP', cG_t (inb_nI (by rw [kM_30]; omega) (by decide)), cl_nI (by omega), uA_oth' _ _ _ (by decide), m1, if_neg (by decide), rM_50 hP', if_pos nI_0, rM_46 hP', cG_t (inb_nI (by rw [kM_31]; omega) (by decide)), uA_oth' _ _ _ (by decide), m2]
  unfold F_X12_termOf_58 cL
  rw [cG_t (inb_nI (by rw [kM_34]; omega) (by decide)), cl_nI (by omega), uA_uI]
  unfold F_X12_termOf_159 cL
  rw [nI_1, nI_1]
theorem stepM_1 {τ : hSt} (hP : HM τ.2.2) {to a k i : Nat} {f : Nat → Int32} (hto : to ≤ 840) (ha : a < to) (hk : k < 400) (m1 : τ.1 30 a = nI 1) (m2 : τ.1 31 a = nI i) (hi : i < 6) :
    F_X12_termOf_5b 0 (nI to) (nI k) (nI a) (uA τ 34 f) = some (.inl (nI (k + 1), nI (a + 1), uA τ 34 (upd f k (τ.1 33 i)))) := by
  have hP' : HM (uA τ 34 f).2.2 := hP
  unfold F_X12_termOf_5b cL
  dsimp only
  rw [if_neg (nI_ge ha (by omega)), rM_45 hP', cG_t (inb_nI (by rw [kM_30]; omega) (by decide)), cl_nI (by omega), uA_oth' _ _ _ (by decide), m1, if_neg (by decide), rM_50 hP', if_neg (by decide), rM_49 hP', rM_46 hP', cG_t (inb_nI (by rw [kM_31]; omega) (by decide)), uA_oth' _ _ _ (by decide), m2, cG_t (inb_nI (by rw [kM_33]; omega) (by decide)), uA_oth' _ _ _ (by decide), cl_nI (by omega)]
  unfold F_X12_termOf_58 cL
  rw [cG_t (inb_nI (by rw [kM_34]; omega) (by decide)), cl_nI (by omega), uA_uI]
  unfold F_X12_termOf_159 cL
  rw [nI_1, nI_1]
theorem stepM_go {τ : hSt} {kd k a : Nat} {f : Nat → Int32} {x y z : Int32} (hP : HM τ.2.2) (hk : k < 399) (hz : (kd = 2 ∧ z = x + y) ∨ (kd = 3 ∧ z = x - y) ∨ (kd = 4 ∧ z = x * y) ∨ (kd = 5 ∧ y ≠ 0 ∧ z = x / y)) {to : Nat} :
    F_X12_termOf_104 0 (nI to) (nI (k + 1)) (nI a) (nI kd) x y (uA τ 34 f) = some (.inl (nI (k + 1), nI (a + 1), uA τ 34 (upd f k z))) := by
  have hP' : HM (uA τ 34 f).2.2 := hP
  have fin : F_X12_termOf_158 0 (nI to) (nI (k + 1)) (nI a) 34 (nI (k + 1) - 1) z (uA τ 34 f) = some (.inl (nI (k + 1), nI (a + 1), uA τ 34 (upd f k z))) := by
    unfold F_X12_termOf_158 cL
    rw [nI_pred, cG_t (inb_nI (by rw [kM_34]; omega) (by decide)), cl_nI (by omega), uA_uI]
    unfold F_X12_termOf_159 cL
    rw [nI_1]
  unfold F_X12_termOf_104
  rw [rM_50 hP']
  rcases hz with ⟨q, e⟩ | ⟨q, e⟩ | ⟨q, e⟩ | ⟨q, q2, e⟩
  · subst q; rw [if_pos (show nI 2 = 2 from rfl), ← e]; exact fin
  · subst q; rw [if_neg (by decide), if_pos (show nI 3 = 3 from rfl), ← e]; exact fin
  · subst q; rw [if_neg (by decide), if_neg (by decide), if_pos (show nI 4 = 4 from rfl), ← e]; exact fin
  · subst q; rw [if_neg (by decide), if_neg (by decide), if_neg (by decide), cG_t (by simpa using q2), ← e]; exact fin
theorem stepM_op {τ : hSt} (hP : HM τ.2.2) {to a k kd : Nat} {f : Nat → Int32} {x y : Int32} (hto : to ≤ 840) (ha : a < to) (hk : k < 390) (m1 : τ.1 30 a = nI kd) (h2 : 2 ≤ kd) (h6 : kd < 6) (fx : f k = x) (fy : f (k + 1) = y) :
    F_X12_termOf_5b 0 (nI to) (nI (k + 2)) (nI a) (uA τ 34 f) = if kd = 5 ∧ y = 0 then some (.inr (0, uI (uA τ 34 f) 0 51 1)) else F_X12_termOf_104 0 (nI to) (nI (k + 1)) (nI a) (nI kd) x y (uA τ 34 f) := by
  have hP' : HM (uA τ 34 f).2.2 := hP
  have e1 : nI (k + 2) + (-1 : Int32) = nI (k + 1) := nI_dec (k + 1)
  unfold F_X12_termOf_5b cL
  dsimp only
  rw [if_neg (nI_ge ha (by omega)), rM_45 hP', cG_t (inb_nI (by rw [kM_30]; omega) (by decide)), cl_nI (by omega), uA_oth' _ _ _ (by decide), m1, if_pos (show (2 : Int32) ≤ nI kd from nI_le (a := 2) h2 (by omega)), e1, rM_50 hP', nI_pred, cG_t (inb_nI (by rw [kM_34]; omega) (by decide)), cl_nI (n := k) (by omega), uA_own, fx, rM_50 hP', cG_t (inb_nI (by rw [kM_34]; omega) (by decide)), cl_nI (n := k + 1) (by omega), uA_own, fy]
  by_cases h5 : kd = 5
  · subst h5
    rw [if_pos (show nI 5 = 5 from rfl)]
    by_cases hy : y = 0
    · rw [if_pos hy, if_pos ⟨rfl, hy⟩]
    · rw [if_neg hy, if_neg (fun q => hy q.2)]
  · rw [if_neg (show ¬ nI kd = 5 from fun q => h5 ((nI_eq (b := 5) (by omega) (by omega)).mp q)), if_neg (fun q => h5 q.1)]
theorem termM_go {τ : hSt} (hP : HM τ.2.2) {to : Nat} (hto : to ≤ 840) :
    ∀ (os : List (Nat × Int32)) (N a : Nat) (st : List Int32) (f : Nat → Int32), os.length < N → a + os.length = to → mOps (τ.1 30) (τ.1 31) a os → opsOk 32 os st.length 1 → st.length ≤ 32 → PL f st →
      (∀ v, opsS (τ.1 33) os st = some [v] → ∃ f', lp (S_X12_termOf_5 0 (nI to)) N (nI st.length, nI a, uA τ 34 f) = some (v, uA τ 34 f')) ∧
      (opsS (τ.1 33) os st = none → ∃ f', lp (S_X12_termOf_5 0 (nI to)) N (nI st.length, nI a, uA τ 34 f) = some (0, uI (uA τ 34 f') 0 51 1))
  | [], 0, _, _, _, hN, _, _, _, _, _ => absurd hN (by decide)
  | [], N + 1, a, st, f, _, ha, _, hk, _, hf => by
    have ha' : a = to := ha
    subst ha'
    refine ⟨fun v hv => ?_, fun q => by cases q⟩
    have hst : st = [v] := by
      have : some st = some [v] := hv
      injection this
    subst hst
    refine ⟨f, lp_inr ?_⟩
    unfold S_X12_termOf_5 F_X12_termOf_5b
    dsimp only
    rw [if_pos (nI_le (Nat.le_refl _) (by omega)), rM_50 (P := (uA τ 34 f).2.2) hP, cG_t (show inb (0 : Int32) (kM 34).2 = true by rw [kM_34]; decide), uA_own]
    rw [show f (Int32.toNatClampNeg 0) = v from hf.1]
  | o :: os, 0, _, _, _, hN, _, _, _, _, _ => absurd hN (by omega)
  | (kd, x) :: os, N + 1, a, st, f, hN, ha, hm, hk, hl, hf => by
    have hN' : os.length < N := by simp at hN; omega
    have ha' : a + 1 + os.length = to := by simp at ha; omega
    have hat : a < to := by omega
    obtain ⟨m1, m2, m3, m4⟩ := hm
    dsimp only at m1 m2 m3
    unfold opsOk at hk
    dsimp only at hk
    by_cases h2 : kd < 2
    · rw [if_pos h2] at hk
      have go : ∀ z, (∀ v, opsS (τ.1 33) os (z :: st) = some [v] → ∃ f', lp (S_X12_termOf_5 0 (nI to)) N (nI (st.length + 1), nI (a + 1), uA τ 34 (upd f st.length z)) = some (v, uA τ 34 f')) ∧ (opsS (τ.1 33) os (z :: st) = none → ∃ f', lp (S_X12_termOf_5 0 (nI to)) N (nI (st.length + 1), nI (a + 1), uA τ 34 (upd f st.length z)) = some (0, uI (uA τ 34 f') 0 51 1)) := fun z =>
        termM_go hP hto os N (a + 1) (z :: st) (upd f st.length z) hN' ha' m4 hk.2 hk.1 ⟨upd_eq, PL_upd (Nat.le_refl _) hf⟩
      rcases (show kd = 0 ∨ kd = 1 by omega) with q | q
      · subst q
        have e : opsS (τ.1 33) ((0, x) :: os) st = opsS (τ.1 33) os (x :: st) := rfl
        have s1 : S_X12_termOf_5 0 (nI to) (nI st.length, nI a, uA τ 34 f) = some (.inl (nI (st.length + 1), nI (a + 1), uA τ 34 (upd f st.length x))) := stepM_0 hP hto hat (by omega) m1 m2
        rw [e, lp_inl s1]
        exact go x
      · subst q
        obtain ⟨i, hi, m5⟩ := m3 rfl
        subst m5
        have e : opsS (τ.1 33) ((1, nI i) :: os) st = opsS (τ.1 33) os (τ.1 33 i :: st) := by
          show opsS (τ.1 33) os (τ.1 33 ((nI i).toNatClampNeg % 6) :: st) = _
          rw [cl_nI (by omega), Nat.mod_eq_of_lt hi]
        have s1 : S_X12_termOf_5 0 (nI to) (nI st.length, nI a, uA τ 34 f) = some (.inl (nI (st.length + 1), nI (a + 1), uA τ 34 (upd f st.length (τ.1 33 i)))) := stepM_1 hP hto hat (by omega) m1 m2 hi
        rw [e, lp_inl s1]
        exact go _
    · rw [if_neg h2] at hk
      obtain ⟨h6, hk2, hk3⟩ := hk
      match st, hk2, hk3, hl, hf with
      | y :: w :: st, _, hk3, hl, hf =>
        obtain ⟨f1, f2, f3⟩ := hf
        have f1 : f (st.length + 1) = y := f1
        have hlen : st.length + 2 ≤ 32 := hl
        have s0 := stepM_op hP hto hat (show st.length < 390 by omega) m1 (by omega) h6 f2 f1
        have go : ∀ z, (∀ v, opsS (τ.1 33) os (z :: st) = some [v] → ∃ f', lp (S_X12_termOf_5 0 (nI to)) N (nI (st.length + 1), nI (a + 1), uA τ 34 (upd f st.length z)) = some (v, uA τ 34 f')) ∧ (opsS (τ.1 33) os (z :: st) = none → ∃ f', lp (S_X12_termOf_5 0 (nI to)) N (nI (st.length + 1), nI (a + 1), uA τ 34 (upd f st.length z)) = some (0, uI (uA τ 34 f') 0 51 1)) := fun z =>
          termM_go hP hto os N (a + 1) (z :: st) (upd f st.length z) hN' ha' m4 hk3 (by show st.length + 1 ≤ 32; omega) ⟨upd_eq, PL_upd (Nat.le_refl _) f3⟩
        have hz : ∀ z, ((kd = 2 ∧ z = w + y) ∨ (kd = 3 ∧ z = w - y) ∨ (kd = 4 ∧ z = w * y) ∨ (kd = 5 ∧ y ≠ 0 ∧ z = w / y)) → ¬ (kd = 5 ∧ y = 0) → opsS (τ.1 33) ((kd, x) :: os) (y :: w :: st) = opsS (τ.1 33) os (z :: st) →
            (∀ v, opsS (τ.1 33) ((kd, x) :: os) (y :: w :: st) = some [v] → ∃ f', lp (S_X12_termOf_5 0 (nI to)) (N + 1) (nI (st.length + 2), nI a, uA τ 34 f) = some (v, uA τ 34 f')) ∧
            (opsS (τ.1 33) ((kd, x) :: os) (y :: w :: st) = none → ∃ f', lp (S_X12_termOf_5 0 (nI to)) (N + 1) (nI (st.length + 2), nI a, uA τ 34 f) = some (0, uI (uA τ 34 f') 0 51 1)) := by
          intro z hz hn e
          have s1 : S_X12_termOf_5 0 (nI to) (nI (st.length + 2), nI a, uA τ 34 f) = some (.inl (nI (st.length + 1), nI (a + 1), uA τ 34 (upd f st.length z))) := by
            unfold S_X12_termOf_5
            dsimp only
            rw [s0, if_neg hn]
            exact stepM_go hP (by omega) hz
          rw [e, lp_inl s1]
          exact go z
        rcases (show kd = 2 ∨ kd = 3 ∨ kd = 4 ∨ kd = 5 by omega) with q | q | q | q
        · subst q
          exact hz (w + y) (Or.inl ⟨rfl, rfl⟩) (fun q => absurd q.1 (by decide)) rfl
        · subst q
          exact hz (w - y) (Or.inr (Or.inl ⟨rfl, rfl⟩)) (fun q => absurd q.1 (by decide)) rfl
        · subst q
          exact hz (w * y) (Or.inr (Or.inr (Or.inl ⟨rfl, rfl⟩))) (fun q => absurd q.1 (by decide)) rfl
        · subst q
          by_cases hy : y = 0
          · have e : opsS (τ.1 33) ((5, x) :: os) (y :: w :: st) = none := by
              show ((if y = 0 then none else some ((w / y) :: st)) : Option (List Int32)).bind _ = none
              rw [if_pos hy]
              rfl
            rw [e]
            refine ⟨fun v hv => (by cases hv), fun _ => ⟨f, lp_inr ?_⟩⟩
            unfold S_X12_termOf_5
            dsimp only
            rw [show (y :: w :: st).length = st.length + 2 from rfl, s0, if_pos ⟨rfl, hy⟩]
          · refine hz (w / y) (Or.inr (Or.inr (Or.inr ⟨rfl, hy, rfl⟩))) (fun q => hy q.2) ?_
            show ((if y = 0 then none else some ((w / y) :: st)) : Option (List Int32)).bind (opsS (τ.1 33) os) = _
            rw [if_neg hy]
            rfl
/-- a term in the model: its value, or broken -/
theorem termM_eq {τ : hSt} (hP : HM τ.2.2) {a : Nat} {os : List (Nat × Int32)} (hto : a + os.length ≤ 840) (hm : mOps (τ.1 30) (τ.1 31) a os) (hk : opsOk 32 os 0 1) :
    (∀ v, opsS (τ.1 33) os [] = some [v] → ∃ f', F_X12_termOf 0 (nI a) (nI (a + os.length)) τ = some (v, uA τ 34 f')) ∧
    (opsS (τ.1 33) os [] = none → ∃ f', F_X12_termOf 0 (nI a) (nI (a + os.length)) τ = some (0, uI (uA τ 34 f') 0 51 1)) := by
  have := termM_go hP hto os fuel a [] (τ.1 34) (by rw [fuel_v]; omega) rfl hm hk (by decide) trivial
  rw [uA_self] at this
  exact this
