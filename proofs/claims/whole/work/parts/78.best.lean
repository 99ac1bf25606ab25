/-! ===== PURE 43: talk, bestOrder, quiet ===== -/
theorem inM_1n {x : Int32} {n : Nat} {τ : hSt} (hn : n < 2 ^ 31) : (∃ j, 1 ≤ j ∧ j ≤ n ∧ x = nI j ∧ F_X12_in x 1 (nI n) τ = some 1) ∨ (F_X12_in x 1 (nI n) τ = some 0 ∧ (x < 1 ∨ nI n < x)) := by
  have f0 : F_X12_in_14 τ = some 0 := rfl
  have f1 : F_X12_in_15 1 τ = some 1 := rfl
  unfold F_X12_in
  by_cases h1 : x < 1
  · exact Or.inr ⟨by rw [if_pos h1, f0], Or.inl h1⟩
  · have h0 : ¬ x < 0 := fun q => h1 (Int32.lt_trans q (by decide))
    obtain ⟨j, hj, e⟩ := nI_of h0
    subst e
    have hj1 : 1 ≤ j := by
      rcases Nat.eq_zero_or_pos j with q | q
      · subst q; exact absurd (show nI 0 < 1 by decide) h1
      · exact q
    by_cases h : n < j
    · exact Or.inr ⟨by rw [if_neg h1, if_pos (nI_lt h hj), f0], Or.inr (nI_lt h hj)⟩
    · exact Or.inl ⟨j, hj1, by omega, rfl, by rw [if_neg h1, if_neg (nI_nlt (by omega) hn), f1]⟩
theorem frq_trans {τ τ' τ'' : hSt} (h : frq τ τ') (h' : frq τ' τ'') : frq τ τ'' := ⟨h'.1.trans h.1, fun j hj => (h'.2.1 j hj).trans (h.2.1 j hj), fun k p1 p2 p3 p4 p5 => ⟨((h'.2.2 k p1 p2 p3 p4 p5).1).trans (h.2.2 k p1 p2 p3 p4 p5).1, ((h'.2.2 k p1 p2 p3 p4 p5).2).trans (h.2.2 k p1 p2 p3 p4 p5).2⟩⟩
theorem frq_rfl {τ : hSt} : frq τ τ := ⟨rfl, fun _ _ => rfl, fun _ _ _ _ _ _ => ⟨rfl, rfl⟩⟩
theorem talk_eq {b : Nat} {σ τ : hSt} {x : Int32} (hb : b + 300 < 2 ^ 30) (h : Rr b σ τ) : ∃ v σ' τ', F_X11_talk 0 x σ = some (v, σ') ∧ F_X12_talk 0 x τ = some (v, τ') ∧ Rr b σ' τ' := by
  have h00 := h
  obtain ⟨t, li, D, ht, hD, hT, hM, hR⟩ := h
  obtain ⟨ht1, ht2⟩ := Rat_ok ht
  have hP : HC σ.2.2 := hT.1.1
  unfold F_X11_talk F_X12_talk
  rcases inM_1n (x := x) (n := 200) (τ := τ) (by decide) with ⟨n, hn1, hn, e, q⟩ | ⟨q, q2⟩
  · subst e
    have hC1 : TC t D (cpC 48 44 σ) := TC_fr hT rfl (fun k a b => cpC_row (by omega))
    have hM1 : TM li D (cpS τ (nI (tO D)) (-1)) := TM_M hM rfl cpS_fr
    have hW1 : WR (tH D) b (cpC 48 44 σ).1 48 ((cpS τ (nI (tO D)) (-1)).1 37) := by
      rw [cpS_37]
      exact WR_rowlo (WR_copy hR.2.2.1) (fun j hj => cpR_lo hj)
    obtain ⟨n0, d0, hW0, -⟩ := id hR.2.2.1
    have hQ1 : HM (cpS τ (nI (tO D)) (-1)).2.2 := hM.1
    have e122 : (cpS τ (nI (tO D)) (-1)).1 37 122 = σ.1 44 8 := by rw [cpS_37, cpR_lo (by decide)]; exact hW0.1.2.1.symm
    rw [show (200 : Int32) = nI 200 from rfl, q, if_neg (show ¬ nI n < 1 from nI_nlt (a := n) (b := 1) hn1 (by omega)), if_pos (nI_le hn (by decide)), rC_11_6' hP, rC_11_5' hP, copy_eq hP (by decide) (by decide) (by omega)]
    simp only [Option.bind_some, if_neg ne_10]
    rw [copiesM hM]
    simp only [Option.bind_some]
    rw [rM_54 hQ1, cG_t (show inb (122 : Int32) (kM 37).2 = true by rw [kM_37]; decide), show (122 : Int32).toNatClampNeg = 122 from rfl, e122]
    unfold cL F_X11_talk_27 F_X12_talk_27
    dsimp only
    have main : ∃ x y, lp (S_X11_talk_27 0 (nI n)) fuel (0, cpC 48 44 σ) = some x ∧ lp (S_X12_talk_27 0 (nI n) (σ.1 44 8)) fuel (0, cpS τ (nI (tO D)) (-1)) = some y ∧ (fun (x y : Int32 × hSt) => x.1 = y.1 ∧ TC t D x.2 ∧ frC t σ x.2 ∧ TM li D y.2 ∧ frM τ y.2) x y := by
      refine lp_two n (by rw [fuel_v]; omega)
        (fun i a c => a.1 = nI i ∧ c.1 = nI i ∧ TC t D a.2 ∧ TM li D c.2 ∧ frm t 48 (cpC 48 44 σ) a.2 ∧ frq (cpS τ (nI (tO D)) (-1)) c.2 ∧ WR (tH D) (b + i) a.2.1 48 (c.2.1 37))
        _ ⟨rfl, rfl, hC1, hM1, frm_rfl, frq_rfl, hW1⟩ (fun i a c hi hac => ?_)
      obtain ⟨l4, s1⟩ := a
      obtain ⟨l4', r1⟩ := c
      obtain ⟨a1, a2, a3, a4, a5, a6, a7⟩ := hac
      dsimp only at a1 a2 a3 a4 a5 a6 a7
      subst a1 a2
      have hPs : HC s1.2.2 := a3.1.1
      have hts : Rat t s1.2.2 := by rw [a5.1]; exact ht
      unfold S_X11_talk_27 F_X11_talk_27b S_X12_talk_27 F_X12_talk_27b cL
      dsimp only
      by_cases hlt : i < n
      · left
        obtain ⟨σ', τ', c1, m1, c2, m2, c3, m3, c4⟩ := day_WR (t := t) (w := 48) (how := tO D) hD ht1 (by decide) (by omega) a3 a4 a7 (by omega) (by rw [a6.2.1 55 (by decide)]; exact cpS_55) hD.2.2.2.1
        rw [a6.2.1 56 (by decide), cpS_56] at c1
        rw [if_neg (nI_ge hlt (by omega)), if_neg (nI_ge hlt (by omega)), rC_11_6' hPs, Rat_c hts, Rat_c hts, a3.1.2.1.2.2.1, c1, m1]
        exact ⟨_, _, hlt, rfl, rfl, nI_1 i, nI_1 i, c2, m2, frm_trans a5 c3, frq_trans a6 m3, c4⟩
      · right
        have : i = n := by omega
        subst this
        obtain ⟨n1, d1, hW, -⟩ := a7
        rw [if_pos (nI_le (Nat.le_refl _) (by omega)), if_pos (nI_le (Nat.le_refl _) (by omega)), rC_11_6' hPs, rC_11_5' hPs, rM_54 a4.1, cG_t (show inb (122 : Int32) (kM 37).2 = true by rw [kM_37]; decide), show (122 : Int32).toNatClampNeg = 122 from rfl, hW.1.2.1, (a5.2 44 (by omega) (by omega)).1, cpC_row (by omega)]
        exact ⟨_, _, rfl, rfl, rfl, a3, frC_trans frC_cp (frC_m a5), a4, frM_trans cpS_fr (frM_q a6)⟩
    obtain ⟨x, y, g1, g2, g3, g4, g5, g6, g7⟩ := main
    exact ⟨x.1, x.2, y.2, g1, by rw [g2, g3], Rr_ro ht hD hR g4 g6 g5 g7⟩
  · rw [show (200 : Int32) = nI 200 from rfl, q]
    simp only [Option.bind_some, if_true]
    refine ⟨-1, σ, τ, ?_, rfl, h00⟩
    by_cases hx : x < 1
    · rw [if_pos hx]; rfl
    · rw [if_neg hx, if_neg (Int32.not_le.mpr (q2.resolve_left hx))]; rfl
/-! the best so far, in both -/
theorem sooner_eq {k : Nat} {l : Int32} {σ : hSt} (hk : k ≤ 200) : F_X11_isSooner (nI k) l σ = some (if l = -2 then 1 else if l ≤ nI k then 0 else 1) := by
  have f0 : F_X11_isSooner_21 σ = some 0 := rfl
  have f1 : F_X11_isSooner_17 σ = some 1 := rfl
  unfold F_X11_isSooner
  rw [if_neg (show ¬ nI k = -2 from fun q => nI_pos (n := k) (by omega) (by rw [q]; decide))]
  split
  · exact f1
  · split
    · exact f0
    · exact f1
theorem sooner_no {l : Int32} {σ : hSt} : F_X11_isSooner (-2) l σ = some 0 := rfl
/-- best and its days: none, or one with days -/
def okB (best days : Int32) : Prop := (best = -2 ∧ days = -2) ∨ (¬ best < 0 ∧ ∃ k, k ≤ 200 ∧ days = nI k)
theorem okB_days {best days : Int32} (h : okB best days) : (days = -2 ↔ best < 0) := by
  rcases h with ⟨e1, e2⟩ | ⟨e1, k, hk, e2⟩
  · subst e1 e2
    exact ⟨fun _ => by decide, fun _ => rfl⟩
  · subst e2
    exact ⟨fun q => absurd (show nI k < 0 by rw [q]; decide) (nI_pos (by omega)), fun q => absurd q e1⟩
theorem cpS_how {τ : hSt} {how sil x : Int32} : uI (cpS τ how sil) 0 55 x = cpS τ x sil := by
  unfold cpS uI up2
  refine Prod.ext ?_ rfl
  funext c k
  dsimp only
  by_cases h1 : c = 0 ∧ k = 55
  · have h2 : ¬ (c = 0 ∧ k = 56) := by omega
    rw [if_pos h1, if_neg h2, if_pos h1]
  · rw [if_neg h1]
    by_cases h2 : c = 0 ∧ k = 56
    · rw [if_pos h2, if_pos h2]
    · rw [if_neg h2, if_neg h2, if_neg h1, if_neg h1]
theorem cpS_sil {τ : hSt} {how sil x : Int32} : uI (cpS τ how sil) 0 56 x = cpS τ how x := by
  unfold cpS uI up2
  refine Prod.ext ?_ rfl
  funext c k
  dsimp only
  by_cases h2 : c = 0 ∧ k = 56
  · rw [if_pos h2, if_pos h2]
  · rw [if_neg h2, if_neg h2, if_neg h2]
theorem allHills_bt : ∀ H, H ≤ 6 → ∀ i, i < 32 → bt (((1 : Int32) <<< (nI H &&& 31)) - 1) i = decide (i < H) := by decide +kernel
theorem crit_all {I : Nat → Nat → Int32} {w n m H : Nat} {r : Nat → Int32} (hW : RW I w r n) (hm : m < 4) (hH : H ≤ 6) :
    (I w 1 &&& ((((1 : Int32) <<< (nI H &&& 31)) - 1) <<< (((6 : Int32) * nI m) &&& 31))) = ((((1 : Int32) <<< (nI H &&& 31)) - 1) <<< (((6 : Int32) * nI m) &&& 31)) ↔ ∀ h, h < H → r (4 * h + m) = 1 := by
  rw [show (6 : Int32) = nI 6 from rfl, pk_mul, sub_iff]
  constructor
  · intro q h hh
    rw [RW_known hW (by omega) hm]
    refine q _ (by omega) ?_
    rw [bt_shl (by omega) (by omega), show 6 * m + h - 6 * m = h by omega, allHills_bt H hH h (by omega)]
    simp [hh]
  · intro q i hi hb
    rw [bt_shl (by omega) hi] at hb
    simp only [Bool.and_eq_true, decide_eq_true_eq] at hb
    obtain ⟨h1, h2⟩ := hb
    rw [allHills_bt H hH _ (by omega)] at h2
    have h2 : i - 6 * m < H := by simpa using h2
    have := (RW_known hW (h := i - 6 * m) (by omega) hm).mp (q _ h2)
    rwa [show 6 * m + (i - 6 * m) = i by omega] at this
theorem allKnowM {li m : Nat} {D : TxD} {τ : hSt} (hD : TXok D) (hM : TM li D τ) (hm : m < 4) : ((∀ h, h < tH D → τ.1 37 (4 * h + m) = 1) → F_X12_allKnow 0 (nI m) τ = some 1) ∧ ((¬ ∀ h, h < tH D → τ.1 37 (4 * h + m) = 1) → F_X12_allKnow 0 (nI m) τ = some 0) := by
  have d1 := hD.1
  have step : ∀ h, h ≤ tH D → S_X12_allKnow_2 0 (nI m) τ (nI h) = if h < tH D then (if τ.1 37 (4 * h + m) = 1 then some (.inl (nI (h + 1))) else some (.inr 0)) else some (.inr 1) := fun h hh => by
    unfold S_X12_allKnow_2 F_X12_allKnow_2b cL
    rw [rM_24 hM.1, hM.2.1.1, cG_t (inb_nI (by rw [kM_11]; exact hM.2.1.2) (by decide)), cl_nI (by have := hM.2.1.2; omega), hM.2.2.1.1]
    by_cases hlt : h < tH D
    · rw [if_neg (nI_ge hlt (by omega)), if_pos hlt, knowsM_at hM (by omega) hm]
      simp only [Option.bind_some]
      rw [ite_10, nI_1]
    · rw [if_pos (nI_le (by omega) (by omega)), if_neg hlt]
  unfold F_X12_allKnow F_X12_allKnow_2
  constructor
  · intro q
    refine lp_eq (tH D) (by rw [fuel_v]; omega) (fun i v => v = nI i) rfl (fun i v hi hv => ?_)
    subst hv
    rw [step i hi]
    by_cases hlt : i < tH D
    · left
      rw [if_pos hlt, if_pos (q i hlt)]
      exact ⟨_, hlt, rfl, rfl⟩
    · right
      rw [if_neg hlt]
  · intro q
    refine lp_eq (tH D) (by rw [fuel_v]; omega) (fun i v => v = nI i ∧ ∀ h, h < i → τ.1 37 (4 * h + m) = 1) ⟨rfl, fun h hh => absurd hh (by omega)⟩ (fun i v hi hv => ?_)
    obtain ⟨v1, v2⟩ := hv
    subst v1
    rw [step i hi]
    by_cases hlt : i < tH D
    · rw [if_pos hlt]
      by_cases hk : τ.1 37 (4 * i + m) = 1
      · left
        rw [if_pos hk]
        refine ⟨_, hlt, rfl, rfl, fun h hh => ?_⟩
        by_cases e : h = i
        · rw [e]; exact hk
        · exact v2 h (by omega)
      · right
        rw [if_neg hk]
    · exact absurd (fun h hh => v2 h (by omega)) q
theorem best_eq {b : Nat} {σ τ : hSt} {x y : Int32} (hb : b + 300 < 2 ^ 30) (h : Rr b σ τ) : ∃ v σ' τ', F_X11_bestOrder 0 x y σ = some (v, σ') ∧ F_X12_bestOrder 0 x y τ = some (v, τ') ∧ Rr b σ' τ' := by
  have h00 := h
  obtain ⟨t, li, D, ht, hD, hT, hM, hR⟩ := h
  have d1 := hD.1
  have d2 := hD.2.1
  have c17 : F_X11_bestOrder_17 σ = some (-1, σ) := rfl
  unfold F_X11_bestOrder F_X12_bestOrder
  rcases news_eq (x := x) hD ht hT.1 hM with ⟨m, hm, e, q1, q2⟩ | ⟨q1, q2⟩
  · subst e
    rw [q1, q2]
    simp only [Option.bind_some, if_neg ne_10]
    rcases inM_le (x := y) (n := 1) (τ := τ) (by decide) with ⟨j, hj, e, q⟩ | ⟨q, q3⟩
    · have q' : F_X12_in y 0 1 τ = some 1 := q
      rw [q', if_neg (show ¬ y < 0 by rw [e]; exact nI_pos (by omega)), if_pos (show y ≤ 1 by rw [e]; exact nI_le (b := 1) hj (by decide))]
      simp only [Option.bind_some, if_neg ne_10]
      have hall : F_X7_allHills t σ = some (((1 : Int32) <<< (nI (tH D) &&& 31)) - 1) := by
        unfold F_X7_allHills
        rw [hT.1.2.1.1]
      rw [Rat_c ht, hall]
      simp only [Option.bind_some]
      unfold cL F_X11_bestOrder_43 F_X12_bestOrder_29
      dsimp only
      have main : ∃ x z, lp (S_X11_bestOrder_43 0 y ((((1 : Int32) <<< (nI (tH D) &&& 31)) - 1) <<< (((6 : Int32) * nI m) &&& 31))) fuel (-2, -2, 0, σ) = some x ∧ lp (S_X12_bestOrder_29 0 (nI m) y) fuel (-2, -2, 0, τ) = some z ∧ (fun (x z : Int32 × hSt) => x.1 = z.1 ∧ TC t D x.2 ∧ frC t σ x.2 ∧ TM li D z.2 ∧ frM τ z.2) x z := by
        refine lp_two 4 (by rw [fuel_v]; decide)
          (fun i a c => a.1 = c.1 ∧ a.2.1 = c.2.1 ∧ a.2.2.1 = nI i ∧ c.2.2.1 = nI i ∧ okB a.1 a.2.1 ∧ TC t D a.2.2.2 ∧ frC t σ a.2.2.2 ∧ TM li D c.2.2.2 ∧ frM τ c.2.2.2 ∧ c.2.2.2.2.2 = τ.2.2)
          _ ⟨rfl, rfl, rfl, rfl, Or.inl ⟨rfl, rfl⟩, hT, frC_rfl, hM, frM_rfl, rfl⟩ (fun i a c hi hac => ?_)
        obtain ⟨best, days, l6, s1⟩ := a
        obtain ⟨best', days', l6', r1⟩ := c
        obtain ⟨a1, a2, a3, a4, a5, a6, a7, a8, a9, a10⟩ := hac
        dsimp only at a1 a2 a3 a4 a5 a6 a7 a8 a9 a10
        subst a1 a2 a3 a4
        unfold S_X11_bestOrder_43 F_X11_bestOrder_43b S_X12_bestOrder_29 F_X12_bestOrder_29b
        dsimp only
        by_cases hlt : i < 4
        · left
          have hts : Rat t s1.2.2 := by rw [a7.1]; exact ht
          have hR1 := Rst_fr hR ht.2 a7 a9
          have A103 : ∀ p q r s, F_X12_bestOrder_103 0 (nI m) y p q r s = some (.inl (p, q, r + 1, s)) := fun _ _ _ _ => rfl
          have A96 : ∀ r k s, F_X12_bestOrder_96 0 (nI m) y r k s = some (.inl (r, k, r + 1, s)) := fun _ _ _ => rfl
          rw [if_neg (show ¬ (4 : Int32) ≤ nI i from nI_ge (b := 4) hlt (by decide)), if_neg (show ¬ (4 : Int32) ≤ nI i from nI_ge (b := 4) hlt (by decide)), copiesM a8]
          simp only [Option.bind_some]
          unfold cL F_X12_bestOrder_48
          dsimp only
          rw [cpS_how]
          obtain ⟨v, σ', u, τ1, g1, g2, g3, g4, g5, g6, g7, g8⟩ := till_both (S' := S_X12_bestOrder_48 0 (nI m) y best days (nI i)) (A := fun k r => if best < 0 then .inl (nI i, nI k, nI i + 1, r) else if nI k < days then .inl (nI i, nI k, nI i + 1, r) else .inl (best, days, nI i + 1, r)) (A' := fun r => .inl (best, days, nI i + 1, r)) (P := fun r => ∀ h, h < tH D → r (4 * h + m) = 1) (sil := -1) (how := i) hts hD a6 a8 hR1 hb hlt
            (fun I r n hW => crit_all hW (show m < 4 by omega) d1)
            (fun k r1 hk hr hp => by
              unfold S_X12_bestOrder_48 F_X12_bestOrder_48b
              dsimp only
              rw [if_neg (show ¬ (200 : Int32) < nI k from nI_nlt (a := 200) hk (by decide)), (allKnowM hD hr (show m < 4 by omega)).1 hp]
              simp only [Option.bind_some, if_neg ne_10]
              unfold F_X12_bestOrder_74
              rw [if_neg (show ¬ (200 : Int32) < nI k from nI_nlt (a := 200) hk (by decide)), A96, A103]
              split
              · rfl
              · split <;> rfl)
            (fun k r1 r2 hk hr hp hd => by
              unfold S_X12_bestOrder_48 F_X12_bestOrder_48b cL
              dsimp only
              rw [if_neg (show ¬ (200 : Int32) < nI k from nI_nlt (a := 200) hk (by decide)), (allKnowM hD hr (show m < 4 by omega)).2 hp]
              simp only [Option.bind_some, if_true]
              rw [hd, nI_1]
              rfl)
            (fun r1 hr => by
              unfold S_X12_bestOrder_48 F_X12_bestOrder_48b
              dsimp only
              rw [if_pos (show (200 : Int32) < nI 201 by decide)]
              unfold F_X12_bestOrder_74
              rw [if_pos (show (200 : Int32) < nI 201 by decide), A103]
              rfl)
          rw [cC_t g1, show lp (S_X12_bestOrder_48 0 (nI m) y best days (nI i)) fuel (0, cpS r1 (nI i) (-1)) = some u from g2]
          have fm : frM τ τ1 := frM_trans a9 g6
          have B77 : ∀ p q s, F_X11_bestOrder_77 0 y p q ((((1 : Int32) <<< (nI (tH D) &&& 31)) - 1) <<< (((6 : Int32) * nI m) &&& 31)) (nI i) s = some (.inl (p, q, nI i + 1, s)) := fun _ _ _ => rfl
          rcases g8 with ⟨k, hk, e1, e2⟩ | ⟨e1, e2⟩
          · subst e1
            rw [sooner_eq hk]
            simp only [Option.bind_some]
            have hdd := okB_days a5
            by_cases hb0 : best < 0
            · rw [if_pos (hdd.mpr hb0), if_neg ne_10, B77]
              rw [e2, if_pos hb0]
              exact ⟨_, _, hlt, rfl, rfl, rfl, rfl, nI_1 i, nI_1 i, Or.inr ⟨nI_pos (by omega), k, hk, rfl⟩, g3, frC_trans a7 g4, g5, fm, g7.trans a10⟩
            · rw [if_neg (fun q => hb0 (hdd.mp q))]
              by_cases hkd : nI k < days
              · rw [if_neg (Int32.not_le.mpr hkd), if_neg ne_10, B77, e2, if_neg hb0, if_pos hkd]
                exact ⟨_, _, hlt, rfl, rfl, rfl, rfl, nI_1 i, nI_1 i, Or.inr ⟨nI_pos (by omega), k, hk, rfl⟩, g3, frC_trans a7 g4, g5, fm, g7.trans a10⟩
              · rw [if_pos (Int32.not_lt.mp hkd), if_pos rfl, B77, e2, if_neg hb0, if_neg hkd]
                exact ⟨_, _, hlt, rfl, rfl, rfl, rfl, nI_1 i, nI_1 i, a5, g3, frC_trans a7 g4, g5, fm, g7.trans a10⟩
          · subst e1
            rw [sooner_no]
            simp only [Option.bind_some, if_true]
            rw [B77, e2]
            exact ⟨_, _, hlt, rfl, rfl, rfl, rfl, nI_1 i, nI_1 i, a5, g3, frC_trans a7 g4, g5, fm, g7.trans a10⟩
        · right
          have : i = 4 := by omega
          subst this
          rw [if_pos (show (4 : Int32) ≤ nI 4 by decide), if_pos (show (4 : Int32) ≤ nI 4 by decide)]
          by_cases hy : y = 0
          · rw [if_pos hy, if_pos hy]
            exact ⟨_, _, rfl, rfl, rfl, a6, a7, a8, a9⟩
          · rw [if_neg hy, if_neg hy]
            exact ⟨_, _, rfl, rfl, rfl, a6, a7, a8, a9⟩
      obtain ⟨u, z, g1, g2, g3, g4, g5, g6, g7⟩ := main
      exact ⟨u.1, u.2, z.2, g1, by rw [g2, g3], Rr_ro ht hD hR g4 g6 g5 g7⟩
    · have q' : F_X12_in y 0 1 τ = some 0 := q
      rw [q']
      simp only [Option.bind_some, if_true]
      refine ⟨-1, σ, τ, ?_, rfl, h00⟩
      by_cases hy : y < 0
      · rw [if_pos hy, c17]
      · rw [if_neg hy, if_neg (show ¬ y ≤ 1 from Int32.not_le.mpr (q3.resolve_left hy)), c17]
  · rw [q1, q2]
    simp only [Option.bind_some, if_true]
    exact ⟨-1, σ, τ, rfl, rfl, h00⟩
theorem quiet_eq {b : Nat} {σ τ : hSt} {x y z : Int32} (hb : b + 300 < 2 ^ 30) (h : Rr b σ τ) : ∃ v σ' τ', F_X11_quiet 0 x y z σ = some (v, σ') ∧ F_X12_quiet 0 x y z τ = some (v, τ') ∧ Rr b σ' τ' := by
  have h00 := h
  obtain ⟨t, li, D, ht, hD, hT, hM, hR⟩ := h
  have d1 := hD.1
  have d2 := hD.2.1
  have hP : HC σ.2.2 := hT.1.1
  have c37 : F_X11_quiet_37 σ = some (-1, σ) := rfl
  unfold F_X11_quiet F_X12_quiet
  rcases news_eq (x := x) hD ht hT.1 hM with ⟨m, hm, e, q1, q2⟩ | ⟨q1, q2⟩
  · subst e
    rw [q1, q2]
    simp only [Option.bind_some, if_neg ne_10]
    rcases hill_eq (x := y) hD ht hT.1 hM with ⟨a, ha, e, q3, q4⟩ | ⟨q3, q4⟩
    · subst e
      rw [q3, q4]
      simp only [Option.bind_some, if_neg ne_10]
      rcases inM_le (x := z) (n := 1) (τ := τ) (by decide) with ⟨j, hj, e, q⟩ | ⟨q, q5⟩
      · have q' : F_X12_in z 0 1 τ = some 1 := q
        obtain ⟨n0, dd0, hW0, -⟩ := id hR.2.2.1
        rw [q', if_neg (show ¬ z < 0 by rw [e]; exact nI_pos (by omega)), if_neg (show ¬ (1 : Int32) < z by rw [e]; exact nI_nlt (a := 1) hj (by decide))]
        simp only [Option.bind_some, if_neg ne_10]
        rw [copiesM hM]
        simp only [Option.bind_some]
        have hM1 : TM li D (cpS τ (nI (tO D)) (-1)) := TM_M hM rfl cpS_fr
        rw [rC_11_5' hP, knowsC_eq (by omega) (by omega), knowsM_at hM1 (by omega) (by omega), cpS_37, cpR_lo (by omega), (hW0.1.2.2.2 a m (by omega) (by omega)).1]
        simp only [Option.bind_some]
        by_cases hk : bt (σ.1 44 1) (6 * m + a) = true
        · simp only [if_pos hk, if_pos (show (1 : Int32) = 1 from rfl), if_neg ne_10]
          exact ⟨-1, σ, _, c37, rfl, Rr_ro ht hD hR hT hM1 frC_rfl cpS_fr⟩
        · simp only [if_neg hk, if_neg (show ¬ (0 : Int32) = 1 by decide), if_true]
          rw [pairOf_eq]
          simp only [Option.bind_some]
          unfold cL
          dsimp only
          rw [Rat_c ht, hT.1.2.1.2.2.1]
          obtain ⟨v0, σ0, τ0, g1, g2, g3, g4, g5, g6, g7, g8⟩ := knownBy_both (wanted := 0) (sil := -1) (how := tO D) ht hD hT hM hR hb hD.2.2.2.1 (show a < 6 by omega) (show m < 4 by omega)
          rw [cC_t g1, cC_t g2]
          unfold F_X11_quiet_71 F_X12_quiet_57
          have main : ∃ x w, lp (S_X11_quiet_71 0 z ((1 : Int32) <<< (nI (6 * m + a) &&& 31))) fuel (-2, v0, 0, σ0) = some x ∧ lp (S_X12_quiet_57 0 (nI m) (nI a) z) fuel (-2, v0, 0, τ0) = some w ∧ (fun (x z : Int32 × hSt) => x.1 = z.1 ∧ TC t D x.2 ∧ frC t σ x.2 ∧ TM li D z.2 ∧ frM τ z.2) x w := by
            refine lp_two (tH D) (by rw [fuel_v]; omega)
              (fun i a c => a.1 = c.1 ∧ a.2.1 = c.2.1 ∧ a.2.2.1 = nI i ∧ c.2.2.1 = nI i ∧ ((∃ k, k ≤ 200 ∧ a.2.1 = nI k) ∨ a.2.1 = -2) ∧ TC t D a.2.2.2 ∧ frC t σ a.2.2.2 ∧ TM li D c.2.2.2 ∧ frM τ c.2.2.2 ∧ c.2.2.2.2.2 = τ.2.2)
              _ ⟨rfl, rfl, rfl, rfl, g8, g3, g4, g5, g6, g7⟩ (fun i u c hi hac => ?_)
            obtain ⟨best, days, l6, s1⟩ := u
            obtain ⟨best', days', l6', r1⟩ := c
            obtain ⟨a1, a2, a3, a4, a5, a6, a7, a8, a9, a10⟩ := hac
            dsimp only at a1 a2 a3 a4 a5 a6 a7 a8 a9 a10
            subst a1 a2 a3 a4
            have hts : Rat t s1.2.2 := by rw [a7.1]; exact ht
            unfold S_X11_quiet_71 F_X11_quiet_71b S_X12_quiet_57 F_X12_quiet_57b
            dsimp only
            rw [Rat_c hts, a6.1.2.1.1, rM_24 a8.1, a8.2.1.1, cG_t (inb_nI (by rw [kM_11]; exact a8.2.1.2) (by decide)), cl_nI (by have := a8.2.1.2; omega), a8.2.2.1.1]
            by_cases hlt : i < tH D
            · left
              have hR1 := Rst_fr hR ht.2 a7 a9
              rw [if_neg (nI_ge hlt (by omega)), if_neg (nI_ge hlt (by omega)), Rat_c hts, a6.1.2.1.2.2.1, copiesM a8]
              simp only [Option.bind_some]
              unfold cL
              dsimp only
              rw [cpS_sil]
              obtain ⟨v, σ', τ1, k1, k2, k3, k4, k5, k6, k7, k8⟩ := knownBy_both (wanted := 0) (sil := nI i) (how := tO D) hts hD a6 a8 hR1 hb hD.2.2.2.1 (show a < 6 by omega) (show m < 4 by omega)
              rw [cC_t k1, cC_t k2]
              have fm : frM τ τ1 := frM_trans a9 k6
              have B118 : ∀ p q s, F_X11_quiet_118 0 z ((1 : Int32) <<< (nI (6 * m + a) &&& 31)) p q (nI i) s = some (.inl (p, q, nI i + 1, s)) := fun _ _ _ => rfl
              have A117 : ∀ p q s, F_X12_quiet_117 0 (nI m) (nI a) z p q (nI i) s = some (.inl (p, q, nI i + 1, s)) := fun _ _ _ => rfl
              have A109 : ∀ q s, F_X12_quiet_109 0 (nI m) (nI a) z (nI i) q s = some (.inl (nI i, q, nI i + 1, s)) := fun _ _ => rfl
              rcases k8 with ⟨k, hk, e1⟩ | e1
              · subst e1
                rw [sooner_eq hk, if_neg (nI_pos (show k < 2 ^ 31 by omega))]
                simp only [Option.bind_some]
                rcases a5 with ⟨kd, hkd, e3⟩ | e3
                · subst e3
                  rw [if_neg (show ¬ nI kd = -2 from fun q => nI_pos (n := kd) (by omega) (by rw [q]; decide)), if_neg (nI_pos (show kd < 2 ^ 31 by omega))]
                  by_cases hkk : nI k < nI kd
                  · rw [if_neg (Int32.not_le.mpr hkk), if_neg ne_10, if_pos hkk, B118, A109]
                    exact ⟨_, _, hlt, rfl, rfl, rfl, rfl, nI_1 i, nI_1 i, Or.inl ⟨k, hk, rfl⟩, k3, frC_trans a7 k4, k5, fm, k7.trans a10⟩
                  · rw [if_pos (Int32.not_lt.mp hkk), if_pos rfl, if_neg hkk, B118, A117]
                    exact ⟨_, _, hlt, rfl, rfl, rfl, rfl, nI_1 i, nI_1 i, Or.inl ⟨kd, hkd, rfl⟩, k3, frC_trans a7 k4, k5, fm, k7.trans a10⟩
                · subst e3
                  rw [if_pos rfl, if_neg ne_10, if_pos (show (-2 : Int32) < 0 by decide), B118, A109]
                  exact ⟨_, _, hlt, rfl, rfl, rfl, rfl, nI_1 i, nI_1 i, Or.inl ⟨k, hk, rfl⟩, k3, frC_trans a7 k4, k5, fm, k7.trans a10⟩
              · subst e1
                rw [sooner_no, if_pos (show (-2 : Int32) < 0 by decide)]
                simp only [Option.bind_some, if_true]
                rw [B118, A117]
                exact ⟨_, _, hlt, rfl, rfl, rfl, rfl, nI_1 i, nI_1 i, a5, k3, frC_trans a7 k4, k5, fm, k7.trans a10⟩
            · right
              have : i = tH D := by omega
              subst this
              rw [if_pos (nI_le (Nat.le_refl _) (by omega)), if_pos (nI_le (Nat.le_refl _) (by omega))]
              by_cases hy : z = 0
              · rw [if_pos hy, if_pos hy]
                exact ⟨_, _, rfl, rfl, rfl, a6, a7, a8, a9⟩
              · rw [if_neg hy, if_neg hy]
                exact ⟨_, _, rfl, rfl, rfl, a6, a7, a8, a9⟩
          obtain ⟨u, w, k1, k2, k3, k4, k5, k6, k7⟩ := main
          exact ⟨u.1, u.2, w.2, k1, by rw [k2, k3], Rr_ro ht hD hR k4 k6 k5 k7⟩
      · have q' : F_X12_in z 0 1 τ = some 0 := q
        rw [q']
        simp only [Option.bind_some, if_true]
        refine ⟨-1, σ, τ, ?_, rfl, h00⟩
        by_cases hy : z < 0
        · rw [if_pos hy, c37]
        · rw [if_neg hy, if_pos (show (1 : Int32) < z from q5.resolve_left hy), c37]
    · rw [q3, q4]
      simp only [Option.bind_some, if_true]
      exact ⟨-1, σ, τ, rfl, rfl, h00⟩
  · rw [q1, q2]
    simp only [Option.bind_some, if_true]
    exact ⟨-1, σ, τ, rfl, rfl, h00⟩
