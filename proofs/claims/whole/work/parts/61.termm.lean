/-! ===== PURE 26: a term's value in the model ===== -/
/-- the pile holds the stack, its bottom at 0 -/
def PL (f : Nat → Int32) : List Int32 → Prop
  | [] => True
  | x :: st => f st.length = x ∧ PL f st
theorem PL_upd {f : Nat → Int32} {j : Nat} {x : Int32} : ∀ {st : List Int32}, st.length ≤ j → PL f st → PL (upd f j x) st
  | [], _, _ => trivial
  | y :: st, h, q => by
    have h' : st.length + 1 ≤ j := h
    exact ⟨by rw [upd_ne (by omega)]; exact q.1, PL_upd (by omega) q.2⟩
/-- the ops stand in the code from a place on -/
def mOps (τ : hSt) (a : Nat) : List (Nat × Int32) → Prop
  | [] => True
  | o :: os => τ.1 30 a = nI o.1 ∧ τ.1 31 a = o.2 ∧ (o.1 = 1 → ∃ i, i < 6 ∧ o.2 = nI i) ∧ mOps τ (a + 1) os
theorem nI_dec (k : Nat) : nI (k + 1) + (-1 : Int32) = nI k := by
  rw [← nI_1, Int32.add_assoc, show (1 : Int32) + (-1) = 0 from rfl, Int32.add_zero]
theorem termM_go {τ : hSt} (hP : HM τ.2.2) {to : Nat} (hto : to ≤ 840) :
    ∀ (os : List (Nat × Int32)) (N a : Nat) (st : List Int32) (f : Nat → Int32), os.length < N → a + os.length = to → mOps τ a os → opsOk os st.length 1 → PL f st →
      (∀ v, opsS (τ.1 33) os st = some [v] → ∃ f', lp (S_X12_termOf_5 0 (nI to)) N (nI st.length, nI a, uA τ 34 f) = some (v, uA τ 34 f')) ∧
      (opsS (τ.1 33) os st = none → ∃ f', lp (S_X12_termOf_5 0 (nI to)) N (nI st.length, nI a, uA τ 34 f) = some (0, uI (uA τ 34 f') 0 51 1))
  | [], 0, _, _, _, hN, _, _, _, _ => absurd hN (by decide)
  | [], N + 1, a, st, f, _, ha, _, hk, hf => by
    have ha' : a = to := ha
    subst ha'
    refine ⟨fun v hv => ?_, fun q => by cases q⟩
    have hst : st = [v] := by
      have : some st = some [v] := hv
      injection this
    subst hst
    refine ⟨f, lp_inr ?_⟩
    unfold S_X12_termOf_5 F_X12_termOf_5b
    dsimp only
    rw [if_pos (nI_le (Nat.le_refl _) (by omega)), rM_50 (P := (uA τ 34 f).2.2) hP, cG_t (show inb (0 : Int32) (kM 34).2 = true by rw [kM_34]; decide), uA_own]
    rw [show f (Int32.toNatClampNeg 0) = v from hf.1]
  | o :: os, 0, _, _, _, hN, _, _, _, _ => absurd hN (by omega)
  | o :: os, N + 1, a, st, f, hN, ha, hm, hk, hf => by
    sorry
