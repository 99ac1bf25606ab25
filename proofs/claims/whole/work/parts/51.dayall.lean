/-! ===== PURE 16: a whole day by the rule, in the class ===== -/
theorem dayC_all {T : hSt → Prop} {t w H M S d how n0 : Nat} {A B D : Nat → Nat} {ear : Nat → Nat → Nat → Bool} {e r : Nat → Int32} {sil : Int32} {σ : hSt}
    (hX : TX T t H S A B D ear) (hM : ∀ σ, T σ → σ.1 t 3 = nI M) (hM4 : M ≤ 4) (ht : okr kC NC 7 t = true) (hw : okr kC NC 10 w = true) (htw : t + 17 ≤ w) (hT : T σ) (hR : RW σ.1 w r n0) (hd : d < 2 ^ 30) (h120 : r 120 = nI d) (he : earE ear d H e) (hhow : how < 4) :
    ∃ σ', F_X10_passDay w t (nI how) sil σ = some σ' ∧ T σ' ∧ frm t w σ σ' ∧ RW σ'.1 w (nigR (nRow H e sil A B D (dOut H M how e sil (r, n0) H).1 S)) 0 := by
  have hX0 := hX
  obtain ⟨hX1, hX2, hX3⟩ := hX
  have hH : H ≤ 6 := (hX1 σ hT).2.2.1
  have e0 : σ.1 w 0 = nI d := by rw [hR.1.1, h120]
  obtain ⟨v, σ2, y1, y2, y3, y4, y5⟩ := hX3 σ d hT hd
  have f12 : frm t w σ σ2 := ⟨y3, fun k a _ => y4 k a⟩
  have hR2 : RW σ2.1 w r n0 := RW_same hR (fun k a b => (y4 k (by omega)).1)
  unfold F_X10_passDay
  rw [e0, cC_t y1]
  unfold F_X10_passDay_13
  refine lp_go H (by rw [fuel_v]; omega) (fun h u => u.1 = nI h ∧ T u.2 ∧ frm t w σ u.2 ∧ RW u.2.1 w (dOut H M how e sil (r, n0) h).1 (dOut H M how e sil (r, n0) h).2) _ ⟨rfl, y2, f12, hR2⟩ (fun h u hh hu => ?_)
  obtain ⟨l6, σ1⟩ := u
  obtain ⟨q1, q2, q3, q4⟩ := hu
  dsimp only at q1 q2 q3 q4
  subst q1
  unfold S_X10_passDay_13 F_X10_passDay_13b
  dsimp only
  rw [(hX1 σ1 q2).2.1]
  by_cases hlt : h < H
  · left
    rw [if_neg (nI_ge hlt (by omega))]
    by_cases g3 : nI h = sil
    · rw [if_pos g3]
      refine ⟨_, hlt, rfl, nI_1 h, q2, q3, ?_⟩
      unfold dOut
      rw [if_pos g3]
      exact q4
    · rw [if_neg g3]
      obtain ⟨σ', z1, z2, z3, z4⟩ := dayC_in hX0 hM hM4 hw htw q2 q4 he y5 hlt hhow (sil := sil)
      rw [z1]
      refine ⟨_, hlt, rfl, rfl, z2, frm_trans q3 z3, ?_⟩
      unfold dOut
      rw [if_neg g3]
      exact z4
  · right
    have : h = H := by omega
    subst this
    rw [if_pos (nI_le (Nat.le_refl _) (by omega))]
    obtain ⟨σ', z1, z2, z3, z4⟩ := nightC_eq hX0 ht hw htw q2 q4.1 hd (by rw [dOut_120 hH hM4]; exact h120) he (sil := sil)
    rw [z1]
    exact ⟨σ', rfl, z2, frm_trans q3 z3, z4⟩
/-- a night alone, in the class: r at the dusk -/
theorem nightC_all {T : hSt → Prop} {t w H S d n0 : Nat} {A B D : Nat → Nat} {ear : Nat → Nat → Nat → Bool} {e r : Nat → Int32} {sil : Int32} {σ : hSt}
    (hX : TX T t H S A B D ear) (ht : okr kC NC 7 t = true) (hw : okr kC NC 10 w = true) (htw : t + 17 ≤ w) (hT : T σ) (hR : RW σ.1 w r n0) (hd : d < 2 ^ 30) (h120 : r 120 = nI d) (he : earE ear d H e) :
    ∃ σ', F_X10_passNight w t sil σ = some σ' ∧ T σ' ∧ frm t w σ σ' ∧ RW σ'.1 w (nigR (nRow H e sil A B D r S)) 0 :=
  nightC_eq hX ht hw htw hT hR.1 hd h120 he
/-! the same in the model; Q is kept by all that changes the row alone -/
/-- what a day asks of the model's live text -/
def TQ (Q : hSt → Prop) (li H M S : Nat) (A B D : Nat → Nat) (ear : Nat → Nat → Nat → Bool) : Prop :=
  (∀ τ, Q τ → HM τ.2.2 ∧ MLive τ li H M ∧ MSl τ li S A B D) ∧
  (∀ τ f, Q τ → Q (uA τ 37 f)) ∧
  (∀ τ d, Q τ → d < 2 ^ 30 → ∃ τ', F_X12_fillsHearers 0 (nI d) τ = some τ' ∧ Q τ' ∧ τ'.2.2 = τ.2.2 ∧ τ'.1 37 = τ.1 37 ∧ (∀ j, j ≠ 51 → τ'.1 0 j = τ.1 0 j) ∧ (∀ k, k ≠ 0 → k ≠ 33 → k ≠ 34 → k ≠ 35 → τ'.1 k = τ.1 k ∧ τ'.2.1 k = τ.2.1 k) ∧ earE ear d H (τ'.1 35))
theorem nightM_all {Q : hSt → Prop} {li H M S d : Nat} {A B D : Nat → Nat} {ear : Nat → Nat → Nat → Bool} {τ : hSt} (hX : TQ Q li H M S A B D ear) (hQ : Q τ) (hd : d < 2 ^ 30) (h120 : τ.1 37 120 = nI d) :
    ∃ τ', F_X12_nightGoes 0 τ = some (uA τ' 37 (nigR (nRow H (τ'.1 35) (τ.1 0 56) A B D (τ.1 37) S))) ∧ Q τ' ∧ τ'.2.2 = τ.2.2 ∧ (∀ j, j ≠ 51 → τ'.1 0 j = τ.1 0 j) ∧ (∀ k, k ≠ 0 → k ≠ 33 → k ≠ 34 → k ≠ 35 → τ'.1 k = τ.1 k ∧ τ'.2.1 k = τ.2.1 k) ∧ earE ear d H (τ'.1 35) := by
  obtain ⟨h1, h2, h3⟩ := hX
  obtain ⟨τ', y1, y2, y3, y4, y5, y6, y7⟩ := h3 τ d hQ hd
  obtain ⟨z1, z2, z3⟩ := h1 τ' y2
  refine ⟨τ', ?_, y2, y3, y5, y6, y7⟩
  unfold F_X12_nightGoes
  rw [rM_54 (h1 τ hQ).1, cG_t (show inb (120 : Int32) (kM 37).2 = true by rw [kM_37]; decide), show (120 : Int32).toNatClampNeg = 120 from rfl, h120, y1]
  simp only [Option.bind_some]
  rw [nightM_eq z1 z2 z3, y4, y5 56 (by decide)]
