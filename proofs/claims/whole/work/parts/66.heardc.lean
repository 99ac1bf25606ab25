/-! ===== PURE 31: who hears whom on a day, kept by the day, in the class ===== -/
theorem set64 : ∀ h, h < 6 → ∀ b, b < 6 → ((1 : Int64) <<< (((6 : Int32) * nI h + nI b).toInt64 &&& 63)).toBitVec = BitVec.ofNat 64 (2 ^ (6 * h + b)) := by decide +kernel
theorem pow64 : ∀ k, k < 36 → ∀ i, i < 36 → (BitVec.ofNat 64 (2 ^ k)).getLsbD i = decide (i = k) := by decide +kernel
theorem day256 {d : Nat} (hd : d < 2 ^ 30) : nI d &&& (255 : Int32) = nI (d % 256) := pk_andN (by omega) 8 (by decide)
theorem TC0_F {t : Nat} {D : TxD} {σ σ' : hSt} (h : TC0 t D σ) (h2 : σ'.2.2 = σ.2.2) (e : ∀ k, k ≠ t + 16 → σ'.1 k = σ.1 k) : TC0 t D σ' := by
  unfold TC0 at h ⊢
  rw [h2, e t (by omega), e (t + 1) (by omega), e (t + 2) (by omega), e (t + 3) (by omega), e (t + 4) (by omega), e (t + 5) (by omega), e (t + 7) (by omega), e (t + 8) (by omega), e (t + 9) (by omega), e (t + 10) (by omega), e (t + 11) (by omega), e (t + 12) (by omega), e (t + 13) (by omega)]
  exact h
/-- the ears filled as far as (h, b) -/
def earP (D : TxD) (d h b : Nat) (v : Int64) : Prop := ∀ h' b', h' < 6 → b' < 6 → v.toBitVec.getLsbD (6 * h' + b') = ((decide (b' < tH D) && (decide (h' < h) || (decide (h' = h) && decide (b' < b)))) && earD D d h' b')
theorem earP_0 {D : TxD} {d : Nat} : earP D d 0 0 0 := by
  intro h' b' h1 h2
  have : (0 : Int64).toBitVec.getLsbD (6 * h' + b') = false := by simp
  rw [this]
  simp
theorem earP_yes {D : TxD} {d h b : Nat} {v : Int64} (hv : earP D d h b v) (hh : h < 6) (hb : b < tH D) (h6 : tH D ≤ 6) (he : earD D d h b = true) : earP D d h (b + 1) (v ||| ((1 : Int64) <<< (((6 : Int32) * nI h + nI b).toInt64 &&& 63))) := by
  intro h' b' h1 h2
  rw [Int64.toBitVec_or, BitVec.getLsbD_or, hv h' b' h1 h2, set64 h hh b (by omega), pow64 _ (by omega) _ (by omega)]
  by_cases q : h' = h ∧ b' = b
  · obtain ⟨q1, q2⟩ := q
    subst q1 q2
    simp [he, hb]
  · have e1 : decide (6 * h' + b' = 6 * h + b) = false := decide_eq_false (fun z => q ⟨by omega, by omega⟩)
    rw [e1, Bool.or_false]
    by_cases hq : h' = h
    · subst hq
      have : b' ≠ b := fun z => q ⟨rfl, z⟩
      have e2 : decide (b' < b + 1) = decide (b' < b) := decide_eq_decide.mpr (by omega)
      rw [e2]
    · simp [hq]
theorem earP_no {D : TxD} {d h b : Nat} {v : Int64} (hv : earP D d h b v) (he : earD D d h b = false) : earP D d h (b + 1) v := by
  intro h' b' h1 h2
  rw [hv h' b' h1 h2]
  by_cases q : h' = h ∧ b' = b
  · obtain ⟨q1, q2⟩ := q
    subst q1 q2
    simp [he]
  · by_cases hq : h' = h
    · subst hq
      have : b' ≠ b := fun z => q ⟨rfl, z⟩
      have e2 : decide (b' < b + 1) = decide (b' < b) := decide_eq_decide.mpr (by omega)
      rw [e2]
    · simp [hq]
theorem earP_row {D : TxD} {d h : Nat} {v : Int64} (hv : earP D d h (tH D) v) : earP D d (h + 1) 0 v := by
  intro h' b' h1 h2
  rw [hv h' b' h1 h2]
  by_cases hb : b' < tH D
  · by_cases q : h' = h
    · subst q; simp [hb]
    · have e : decide (h' < h + 1) = decide (h' < h) := decide_eq_decide.mpr (by omega)
      simp [q, e]
  · simp [hb]
/-- the class's text in the midst of filling the ears of a day -/
def hIn (t : Nat) (D : TxD) (d h b : Nat) (σ0 : hSt) (g : Nat → Int32) (s : hSt) : Prop :=
  TC0 t D s ∧ s.2.2 = σ0.2.2 ∧ (∀ k, ¬ (t ≤ k ∧ k < t + 17) → s.1 k = σ0.1 k) ∧ s.1 (t + 16) = g ∧ (∀ k j, ¬ (k = t + 15 ∧ j = d % 256) → s.2.1 k j = σ0.2.1 k j) ∧ earP D d h b (s.2.1 (t + 15) (d % 256))
theorem heardOn_in {t d h : Nat} {D : TxD} {σ0 s : hSt} {g : Nat → Int32} (hD : TXok D) (ht : okr kC NC 7 t = true) (hd : d < 2 ^ 30) (hh : h < tH D) (hI : hIn t D d h 0 σ0 g s) :
    ∃ s', F_X7_heardOn_43 t (nI d) (nI (d % 256)) (nI h) 0 s = some (.inl (nI (h + 1), s')) ∧ hIn t D d (h + 1) 0 σ0 g s' := by
  have d1 : tH D ≤ 6 := hD.1
  have main : ∃ x, F_X7_heardOn_43 t (nI d) (nI (d % 256)) (nI h) 0 s = some x ∧ ∃ s', x = .inl (nI (h + 1), s') ∧ hIn t D d (h + 1) 0 σ0 g s' := by
    unfold F_X7_heardOn_43
    refine lp_go (tH D) (by rw [fuel_v]; omega) (fun b u => u.1 = nI b ∧ hIn t D d h b σ0 g u.2) _ ⟨rfl, hI⟩ (fun b u hb hu => ?_)
    obtain ⟨l4, s1⟩ := u
    obtain ⟨q1, q2⟩ := hu
    dsimp only at q1 q2
    subst q1
    obtain ⟨i1, i2, i3, i4, i5, i6⟩ := q2
    have hP : HC s1.2.2 := i1.1
    unfold S_X7_heardOn_43 F_X7_heardOn_43b
    dsimp only
    rw [i1.2.1.1]
    by_cases hlt : b < tH D
    · left
      rw [if_neg (nI_ge hlt (by omega))]
      have yes : ∀ s2, hIn t D d h b σ0 g s2 → earD D d h b = true → ∃ v', b < tH D ∧ F_X7_heardOn_69 t (nI d) (nI (d % 256)) (nI h) (nI b) s2 = some (.inl v') ∧ (v'.1 = nI (b + 1) ∧ hIn t D d h (b + 1) σ0 g v'.2) := fun s2 hI2 he => by
        obtain ⟨j1, j2, j3, j4, j5, j6⟩ := hI2
        have hP2 : HC s2.2.2 := j1.1
        unfold F_X7_heardOn_69 F_X7_heardOn_87 cL
        dsimp only
        rw [rC_7_14 hP2 ht, cG_t (inb_nI (by rw [nC_7_14 ht]; omega) (by rw [nC_7_14 ht]; decide)), cG_t (inb_nI (by rw [nC_7_14 ht]; omega) (by rw [nC_7_14 ht]; decide)), cl_nI (by omega)]
        refine ⟨_, hlt, rfl, nI_1 b, TC0_same j1 rfl (fun _ _ _ => rfl), j2, j3, j4, fun k j hk => ?_, ?_⟩
        · dsimp only
          rw [uJ_J, if_neg hk]
          exact j5 k j hk
        · dsimp only
          rw [uJ_J, if_pos ⟨rfl, rfl⟩]
          exact earP_yes j6 (by omega) hlt d1 he
      by_cases hhb : h = b
      · rw [if_pos (by rw [hhb])]
        exact yes s1 ⟨i1, i2, i3, i4, i5, i6⟩ (by unfold earD; simp [hhb])
      · rw [if_neg (fun z => hhb ((nI_eq (by omega) (by omega)).mp z))]
        obtain ⟨s2, w1, w2, w3⟩ := lawTells_eq hD ht i1 hh hlt hd
        have hI2 : hIn t D d h b σ0 g s2 := ⟨TC0_L i1 w2, w2.1.trans i2, fun k hk => (w2.2.1 k (by omega) (by omega) (by omega)).trans (i3 k hk), (w2.2.1 _ (by omega) (by omega) (by omega)).trans i4, fun k j hk => by rw [w3]; exact i5 k j hk, by rw [w3]; exact i6⟩
        rw [cC_t w1]
        by_cases he : lawD D d h b ≤ 0
        · rw [if_pos he, if_pos rfl]
          refine ⟨_, hlt, rfl, nI_1 b, ?_⟩
          obtain ⟨j1, j2, j3, j4, j5, j6⟩ := hI2
          exact ⟨j1, j2, j3, j4, j5, earP_no j6 (by unfold earD; simp [hhb, he])⟩
        · rw [if_neg he, if_neg (by decide)]
          exact yes s2 hI2 (by unfold earD; simp [he])
    · right
      have : b = tH D := by omega
      subst this
      rw [if_pos (nI_le (Nat.le_refl _) (by omega))]
      unfold cL
      exact ⟨_, rfl, s1, by rw [nI_1], i1, i2, i3, i4, i5, earP_row i6⟩
  obtain ⟨x, h1, s', h2, h3⟩ := main
  exact ⟨s', by rw [h1, h2], h3⟩
theorem heardOn_eq {t d : Nat} {D : TxD} {σ : hSt} (hD : TXok D) (ht : okr kC NC 7 t = true) (hT : TC t D σ) (hd : d < 2 ^ 30) :
    ∃ v σ', F_X7_heardOn t (nI d) σ = some (v, σ') ∧ TC t D σ' ∧ σ'.2.2 = σ.2.2 ∧ (∀ k, ¬ (t ≤ k ∧ k < t + 17) → σ'.1 k = σ.1 k ∧ σ'.2.1 k = σ.2.1 k) ∧ earJ D d v := by
  have d1 : tH D ≤ 6 := hD.1
  obtain ⟨hT0, hT1⟩ := hT
  have hP : HC σ.2.2 := hT0.1
  have hm : d % 256 < 256 := Nat.mod_lt _ (by decide)
  unfold F_X7_heardOn cL
  dsimp only
  rw [day256 hd, rC_7_15 hP ht, cG_t (inb_nI (by rw [nC_7_15 ht]; omega) (by rw [nC_7_15 ht]; decide)), cl_nI (by omega)]
  by_cases hc : σ.1 (t + 16) (d % 256) = nI d
  · rw [if_pos hc]
    unfold F_X7_heardOn_99
    rw [rC_7_14 hP ht, cG_t (inb_nI (by rw [nC_7_14 ht]; omega) (by rw [nC_7_14 ht]; decide)), cl_nI (by omega)]
    refine ⟨_, σ, rfl, ⟨hT0, hT1⟩, rfl, fun _ _ => ⟨rfl, rfl⟩, ?_⟩
    rcases hT1 _ hm with q | ⟨d', q1, q2, q3⟩
    · rw [q] at hc
      exact absurd hc.symm (fun z => nI_pos (n := d) (by omega) (by rw [z]; decide))
    · have : d = d' := (nI_eq (by omega) (by omega)).mp (hc.symm.trans q2)
      subst this
      exact q3
  · rw [if_neg hc, rC_7_15 hP ht, cG_t (inb_nI (by rw [nC_7_15 ht]; omega) (by rw [nC_7_15 ht]; decide)), rC_7_14 (P := (uI σ (t + 16) (d % 256) (nI d)).2.2) hP ht, cG_t (inb_nI (by rw [nC_7_14 ht]; omega) (by rw [nC_7_14 ht]; decide))]
    generalize hs0 : uJ (uI σ (t + 16) (d % 256) (nI d)) (t + 15) (d % 256) 0 = s0
    have g0 : hIn t D d 0 0 σ (upd (σ.1 (t + 16)) (d % 256) (nI d)) s0 := by
      subst hs0
      refine ⟨TC0_F hT0 rfl (fun k hk => ?_), rfl, fun k hk => ?_, ?_, fun k j hk => ?_, ?_⟩
      · rw [uJ_I, uI_row _ _ hk]
      · rw [uJ_I, uI_row _ _ (by omega)]
      · rw [uJ_I, uI_as]
        funext j
        rw [uA_own]
      · rw [uJ_J, if_neg hk]
        rfl
      · rw [uJ_J, if_pos ⟨rfl, rfl⟩]
        exact earP_0
    unfold F_X7_heardOn_32
    obtain ⟨x, y1, v, σ', y2, y3⟩ : ∃ x, lp (S_X7_heardOn_32 t (nI d) (nI (d % 256))) fuel (0, s0) = some x ∧ ∃ v σ', x = (v, σ') ∧ hIn t D d (tH D) 0 σ (upd (σ.1 (t + 16)) (d % 256) (nI d)) σ' ∧ v = σ'.2.1 (t + 15) (d % 256) := by
      refine lp_go (tH D) (by rw [fuel_v]; omega) (fun h u => u.1 = nI h ∧ hIn t D d h 0 σ (upd (σ.1 (t + 16)) (d % 256) (nI d)) u.2) _ ⟨rfl, g0⟩ (fun h u hh hu => ?_)
      obtain ⟨l3, s1⟩ := u
      obtain ⟨q1, q2⟩ := hu
      dsimp only at q1 q2
      subst q1
      have hP1 : HC s1.2.2 := q2.1.1
      unfold S_X7_heardOn_32 F_X7_heardOn_32b
      dsimp only
      rw [q2.1.2.1.1]
      by_cases hlt : h < tH D
      · left
        rw [if_neg (nI_ge hlt (by omega))]
        obtain ⟨s', w1, w2⟩ := heardOn_in hD ht hd hlt q2
        rw [w1]
        exact ⟨_, hlt, rfl, rfl, w2⟩
      · right
        have : h = tH D := by omega
        subst this
        rw [if_pos (nI_le (Nat.le_refl _) (by omega))]
        unfold F_X7_heardOn_99
        rw [rC_7_14 hP1 ht, cG_t (inb_nI (by rw [nC_7_14 ht]; omega) (by rw [nC_7_14 ht]; decide)), cl_nI (by omega)]
        exact ⟨_, rfl, _, s1, rfl, q2, rfl⟩
    obtain ⟨y3, y4⟩ := y3
    obtain ⟨i1, i2, i3, i4, i5, i6⟩ := y3
    have hJ : earJ D d (σ'.2.1 (t + 15) (d % 256)) := by
      intro h b hh hb
      rw [i6 h b (by omega) hb]
      simp [hh]
    refine ⟨v, σ', by rw [y1, y2], ⟨i1, fun j hj => ?_⟩, i2, fun k hk => ⟨i3 k hk, funext fun j => i5 k j (by omega)⟩, by rw [y4]; exact hJ⟩
    rw [i4]
    by_cases hjd : j = d % 256
    · subst hjd
      exact Or.inr ⟨d, hd, upd_eq, hJ⟩
    · rw [upd_ne hjd, i5 _ _ (fun z => hjd z.2)]
      exact hT1 j hj
/-- the class's text serves the worlds -/
theorem TX_of {t : Nat} {D : TxD} (hD : TXok D) (ht : okr kC NC 7 t = true) : TX (TC t D) t (tH D) (tS D) (tA D) (tB D) (tD D) (earD D) := by
  obtain ⟨d1, d2, d3, -, -, -, -, -, d9⟩ := id hD
  refine ⟨fun σ h => ⟨h.1.1, h.1.2.1.1, d1, h.1.2.1.2.2.2, d3, fun i hi => ?_⟩, fun σ σ' h e1 e2 => ⟨TC0_same h.1 (by rw [e1]) e2, ?_⟩, fun σ d h hd => heardOn_eq hD ht h hd⟩
  · obtain ⟨a1, a2, a3, a4⟩ := d9 i hi
    obtain ⟨b1, b2, b3⟩ := h.1.2.2.2.2.2.2.2 i hi
    exact ⟨b1, a1, b2, by omega, b3, a3, by omega⟩
  · rw [e1, e2 (t + 16) (by omega) (by omega)]
    exact h.2
