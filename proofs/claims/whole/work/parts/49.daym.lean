/-! ===== PURE 14: a day by the rule, in the model ===== -/
theorem dayM_in {τ : hSt} {li H M how h : Nat} {p : (Nat → Int32) × Nat} (hP : HM τ.2.2) (hL : MLive τ li H M) (hq : RMt p) (e2 : τ.1 0 55 = nI how) (hw : how < 4) (hh : h < H) :
    F_X12_dayByRule_28 0 (nI h) 0 (uA τ 37 p.1) = some (.inl (nI (h + 1), uA τ 37 (if nI h = τ.1 0 56 then p else dIn H how (τ.1 35) h p M).1)) := by
  obtain ⟨hL1, hL2, hL3, hL4, hL5, hL6⟩ := hL
  unfold F_X12_dayByRule_28
  refine lp_eq M (by rw [fuel_v]; omega) (fun m v => v = (nI m, uA τ 37 (if nI h = τ.1 0 56 then p else dIn H how (τ.1 35) h p m).1)) ?_ (fun m v hm hv => ?_)
  · dsimp only [dIn]
    rw [ite_self]
    rfl
  · subst hv
    obtain ⟨q, hqq⟩ : ∃ q, q = (if nI h = τ.1 0 56 then p else dIn H how (τ.1 35) h p m) := ⟨_, rfl⟩
    have hqt : RMt q := by
      rw [hqq]
      split
      · exact hq
      · exact dIn_RMt hL4 hq m (by omega)
    have own : (uA τ 37 q.1).1 37 = q.1 := funext fun j => uA_own _ _ _ _
    rw [← hqq]
    have hP' : HM (uA τ 37 q.1).2.2 := hP
    have hL' : MLive (uA τ 37 q.1) li H M := ⟨by rw [uA_oth' _ _ _ (by decide)]; exact hL1, hL2, by rw [uA_oth' _ _ _ (by decide)]; exact hL3, hL4, by rw [uA_oth' _ _ _ (by decide)]; exact hL5, hL6⟩
    unfold S_X12_dayByRule_28 F_X12_dayByRule_28b
    dsimp only
    rw [rM_27 hP', uA_oth' _ _ _ (by decide), hL1, cG_t (inb_nI (by rw [kM_14]; omega) (by decide)), cl_nI (by omega), uA_oth' _ _ _ (by decide), hL5]
    by_cases hlt : m < M
    · left
      have nx : ∀ τ', τ' = uA τ 37 (if nI h = τ.1 0 56 then p else dIn H how (τ.1 35) h p (m + 1)).1 → ∃ v', m < M ∧ F_X12_dayByRule_67 0 (nI h) (nI m) τ' = some (.inl v') ∧ v' = (nI (m + 1), uA τ 37 (if nI h = τ.1 0 56 then p else dIn H how (τ.1 35) h p (m + 1)).1) := fun τ' e => by
        subst e
        refine ⟨_, hlt, rfl, ?_⟩
        rw [nI_1]
      rw [if_neg (nI_ge hlt (by omega)), uA_oth' _ _ _ (by decide)]
      by_cases g3 : nI h = τ.1 0 56
      · rw [if_pos g3] at nx hqq ⊢
        rw [if_pos g3]
        exact nx _ (by rw [hqq])
      · rw [if_neg g3] at nx hqq ⊢
        rw [if_neg g3]
        have hr1 : dIn H how (τ.1 35) h p (m + 1) = dStep H how (τ.1 35) h m q := by rw [hqq]; rfl
        rw [hr1] at nx ⊢
        obtain ⟨w1, w2⟩ := lawM_eq (h := h) (m := m) (t := q.2) (how := how) (d := 0) (τ := uA τ 37 q.1) hP' (by omega) (by omega) hqt.2 (by rw [own]; exact hqt.1) (by rw [uA_oth' _ _ _ (by decide)]; exact e2) hw
        rw [own] at w1 w2
        by_cases g : lawP q.1 q.2 how h m 0
        · rw [w1 g]
          simp only [Option.bind_some]
          rw [if_neg (by decide), cC_t (drumsNow_eq (τ := uA τ 37 q.1) (t := q.2) hP' hL' (by omega) (by omega) g.2.1 (by rw [own]; exact hqt.1)), uA_uA, own, uA_oth' _ _ _ (by decide)]
          exact nx _ (by rw [dStep_go g])
        · rw [w2 g]
          simp only [Option.bind_some]
          rw [if_pos trivial]
          exact nx _ (by rw [dStep_no g])
    · right
      have : m = M := by omega
      subst this
      rw [if_pos (nI_le (Nat.le_refl _) (by omega)), hqq]
      unfold cL
      rw [nI_1]
theorem dayM_out {τ τ' : hSt} {li H M how : Nat} {p : (Nat → Int32) × Nat} (hP : HM τ.2.2) (hL : MLive τ li H M) (hq : RMt p) (e2 : τ.1 0 55 = nI how) (hw : how < 4)
    (hN : F_X12_nightGoes 0 (uA τ 37 (dOut H M how (τ.1 35) (τ.1 0 56) p H).1) = some τ') : F_X12_dayByRule_13 0 0 (uA τ 37 p.1) = some τ' := by
  have hL0 := hL
  obtain ⟨hL1, hL2, hL3, hL4, hL5, hL6⟩ := hL
  unfold F_X12_dayByRule_13
  refine lp_eq H (by rw [fuel_v]; omega) (fun h v => v = (nI h, uA τ 37 (dOut H M how (τ.1 35) (τ.1 0 56) p h).1)) rfl (fun h v hh hv => ?_)
  subst hv
  obtain ⟨q, hqq⟩ : ∃ q, q = dOut H M how (τ.1 35) (τ.1 0 56) p h := ⟨_, rfl⟩
  have hqt : RMt q := by rw [hqq]; exact dOut_RMt hL4 hL6 hq h
  rw [← hqq]
  have hP' : HM (uA τ 37 q.1).2.2 := hP
  unfold S_X12_dayByRule_13 F_X12_dayByRule_13b
  dsimp only
  rw [rM_24 hP', uA_oth' _ _ _ (by decide), hL1, cG_t (inb_nI (by rw [kM_11]; omega) (by decide)), cl_nI (by omega), uA_oth' _ _ _ (by decide), hL3]
  by_cases hlt : h < H
  · left
    rw [if_neg (nI_ge hlt (by omega)), dayM_in hP hL0 hqt e2 hw hlt]
    refine ⟨_, hlt, rfl, ?_⟩
    rw [hqq]
    rfl
  · right
    have : h = H := by omega
    subst this
    rw [if_pos (nI_le (Nat.le_refl _) (by omega)), hqq, hN]
    rfl
