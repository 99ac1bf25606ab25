/-! ===== PURE 42: by the rule, behind how many days ===== -/
theorem lp_two2_run {V X W Y : Type} {s : V → Option (V ⊕ X)} {s' : W → Option (W ⊕ Y)} {N : Nat} (inv : Nat → V → W → Prop) (post : X → Y → Prop)
    (hs : ∀ i v w, i ≤ N → inv i v w → (∃ v' w', i < N ∧ s v = some (.inl v') ∧ s' w = some (.inl w') ∧ inv (i + 1) v' w') ∨ (∃ x y, (∀ k, lp s (k + 2) v = some x) ∧ (∀ k, lp s' (k + 2) w = some y) ∧ post x y)) :
    ∀ (k i : Nat) (v : V) (w : W), i ≤ N → N + 2 ≤ i + k → inv i v w → ∃ x y, lp s k v = some x ∧ lp s' k w = some y ∧ post x y
  | 0, i, v, w, hi, hk, _ => absurd hk (by omega)
  | k + 1, i, v, w, hi, hk, h => by
    rcases hs i v w hi h with ⟨v', w', h1, h2, h3, h4⟩ | ⟨x, y, h2, h3, h4⟩
    · rw [lp_inl h2, lp_inl h3]
      exact lp_two2_run inv post hs k (i + 1) v' w' h1 (by omega) h4
    · obtain ⟨k', e⟩ : ∃ k', k = k' + 1 := ⟨k - 1, by omega⟩
      subst e
      exact ⟨x, y, h2 k', h3 k', h4⟩
theorem lp_two2 {V X W Y : Type} {s : V → Option (V ⊕ X)} {s' : W → Option (W ⊕ Y)} (N : Nat) (hN : N + 1 < fuel) (inv : Nat → V → W → Prop) (post : X → Y → Prop) {v : V} {w : W} (h0 : inv 0 v w)
    (hs : ∀ i v w, i ≤ N → inv i v w → (∃ v' w', i < N ∧ s v = some (.inl v') ∧ s' w = some (.inl w') ∧ inv (i + 1) v' w') ∨ (∃ x y, (∀ k, lp s (k + 2) v = some x) ∧ (∀ k, lp s' (k + 2) w = some y) ∧ post x y)) : ∃ x y, lp s fuel v = some x ∧ lp s' fuel w = some y ∧ post x y :=
  lp_two2_run inv post hs fuel 0 v w (Nat.zero_le _) (by omega) h0
theorem frC_m {t : Nat} {σ σ' : hSt} (h : frm t 48 σ σ') : frC t σ σ' := ⟨h.1, fun k a b _ => (h.2 k a b).1⟩
theorem frC_cp {t : Nat} {σ : hSt} : frC t σ (cpC 48 44 σ) := ⟨rfl, fun k _ b _ => cpC_row b⟩
theorem TC_fr {t : Nat} {D : TxD} {σ σ' : hSt} (h : TC t D σ) (h2 : σ'.2 = σ.2) (e : ∀ k, t ≤ k → k < t + 17 → σ'.1 k = σ.1 k) : TC t D σ' := ⟨TC0_same h.1 (by rw [h2]) e, by rw [h2, e (t + 16) (by omega) (by omega)]; exact h.2⟩
theorem till_both {Y : Type} {S' : Int32 × hSt → Option ((Int32 × hSt) ⊕ Y)} {A : Nat → hSt → Y} {A' : hSt → Y} {P : (Nat → Int32) → Prop} {wanted sil : Int32} {how b t li : Nat} {D : TxD} {σ τ : hSt}
    (ht : Rat t σ.2.2) (hD : TXok D) (hT : TC t D σ) (hM : TM li D τ) (hR : Rst (tH D) (tM D) b σ τ) (hb : b + 300 < 2 ^ 30) (hhow : how < 4)
    (hP : ∀ (I : Nat → Nat → Int32) r n, RW I 48 r n → ((I 48 1 &&& wanted) = wanted ↔ P r))
    (M1 : ∀ i r1, i ≤ 200 → TM li D r1 → P (r1.1 37) → S' (nI i, r1) = some (.inr (A i r1)))
    (M2 : ∀ i r1 r2, i ≤ 200 → TM li D r1 → ¬ P (r1.1 37) → F_X12_dayByRule 0 r1 = some r2 → S' (nI i, r1) = some (.inl (nI (i + 1), r2)))
    (M3 : ∀ r1, TM li D r1 → S' (nI 201, r1) = some (.inr (A' r1))) :
    ∃ v σ' y τ1, F_X11_daysTill 0 wanted (nI how) sil σ = some (v, σ') ∧ lp S' fuel (nI 0, cpS τ (nI how) sil) = some y ∧ TC t D σ' ∧ frC t σ σ' ∧ TM li D τ1 ∧ frM τ τ1 ∧ τ1.2.2 = τ.2.2 ∧ ((∃ k, k ≤ 200 ∧ v = nI k ∧ y = A k τ1) ∨ (v = -2 ∧ y = A' τ1)) := by
  obtain ⟨ht1, ht2⟩ := Rat_ok ht
  have hPc : HC σ.2.2 := hT.1.1
  have hC1 : TC t D (cpC 48 44 σ) := TC_fr hT rfl (fun k a b => cpC_row (by omega))
  have hM1 : TM li D (cpS τ (nI how) sil) := TM_M hM rfl cpS_fr
  have hW1 : WR (tH D) b (cpC 48 44 σ).1 48 ((cpS τ (nI how) sil).1 37) := by
    rw [cpS_37]
    exact WR_rowlo (WR_copy hR.2.2.1) (fun j hj => cpR_lo hj)
  unfold F_X11_daysTill
  rw [rC_11_6' hPc, rC_11_5' hPc, copy_eq hPc (by decide) (by decide) (by omega)]
  simp only [Option.bind_some]
  unfold F_X11_daysTill_14
  have main : ∃ x y, lp (S_X11_daysTill_14 0 wanted (nI how) sil) fuel (0, cpC 48 44 σ) = some x ∧ lp S' fuel (nI 0, cpS τ (nI how) sil) = some y ∧ (fun x y => ∃ τ1, TC t D x.2 ∧ frC t σ x.2 ∧ TM li D τ1 ∧ frM τ τ1 ∧ τ1.2.2 = τ.2.2 ∧ ((∃ k, k ≤ 200 ∧ x.1 = nI k ∧ y = A k τ1) ∨ (x.1 = -2 ∧ y = A' τ1))) x y := by
    refine lp_two2 200 (by rw [fuel_v]; decide)
      (fun i a c => a.1 = nI i ∧ c.1 = nI i ∧ TC t D a.2 ∧ TM li D c.2 ∧ frm t 48 (cpC 48 44 σ) a.2 ∧ frq (cpS τ (nI how) sil) c.2 ∧ WR (tH D) (b + i) a.2.1 48 (c.2.1 37))
      _ ⟨rfl, rfl, hC1, hM1, frm_rfl, ⟨rfl, fun _ _ => rfl, fun _ _ _ _ _ _ => ⟨rfl, rfl⟩⟩, hW1⟩ (fun i a c hi hac => ?_)
    obtain ⟨l4, s1⟩ := a
    obtain ⟨l4', r1⟩ := c
    obtain ⟨a1, a2, a3, a4, a5, a6, a7⟩ := hac
    dsimp only at a1 a2 a3 a4 a5 a6 a7
    subst a1 a2
    have hPs : HC s1.2.2 := a3.1.1
    have hts : Rat t s1.2.2 := by rw [a5.1]; exact ht
    have fc : frC t σ s1 := frC_trans frC_cp (frC_m a5)
    have fm : frM τ r1 := frM_trans cpS_fr (frM_q a6)
    have f2 : r1.2.2 = τ.2.2 := a6.1
    obtain ⟨n, d, hW, -⟩ := id a7
    have crit := hP s1.1 (r1.1 37) n hW
    have hd1 : P (r1.1 37) → S_X11_daysTill_14 0 wanted (nI how) sil (nI i, s1) = some (.inr (nI i, s1)) := fun hp => by
      unfold S_X11_daysTill_14 F_X11_daysTill_14b cL
      dsimp only
      by_cases hlt : i < 200
      · rw [if_neg (show ¬ (200 : Int32) ≤ nI i from nI_ge (b := 200) hlt (by decide)), rC_11_6' hPs, if_pos (crit.mpr hp)]
      · have : i = 200 := by omega
        subst this
        rw [if_pos (show (200 : Int32) ≤ nI 200 by decide), rC_11_6' hPs, if_pos (crit.mpr hp)]
        rfl
    have hd2 : ¬ P (r1.1 37) → i < 200 → S_X11_daysTill_14 0 wanted (nI how) sil (nI i, s1) = (F_X10_passDay 48 t (nI how) sil s1).bind fun σ6 => some (.inl (nI (i + 1), σ6)) := fun hp hlt => by
      unfold S_X11_daysTill_14 F_X11_daysTill_14b cL
      dsimp only
      rw [if_neg (show ¬ (200 : Int32) ≤ nI i from nI_ge (b := 200) hlt (by decide)), rC_11_6' hPs, if_neg (fun q => hp (crit.mp q)), rC_11_6' hPs, Rat_c hts, nI_1]
    have hd3 : ¬ P (r1.1 37) → i = 200 → S_X11_daysTill_14 0 wanted (nI how) sil (nI i, s1) = some (.inr (-2, s1)) := fun hp e => by
      subst e
      unfold S_X11_daysTill_14 F_X11_daysTill_14b cL
      dsimp only
      rw [if_pos (show (200 : Int32) ≤ nI 200 by decide), rC_11_6' hPs, if_neg (fun q => hp (crit.mp q))]
      rfl
    by_cases hp : P (r1.1 37)
    · right
      exact ⟨(nI i, s1), A i r1, fun k => lp_inr (hd1 hp), fun k => lp_inr (M1 i r1 hi a4 hp), r1, a3, fc, a4, fm, f2, Or.inl ⟨i, hi, rfl, rfl⟩⟩
    · obtain ⟨σ', τ', c1, m1, c2, m2, c3, m3, c4⟩ := day_WR (t := t) (w := 48) (how := how) hD ht1 (by decide) (by omega) a3 a4 a7 (by omega) (by rw [a6.2.1 55 (by decide)]; exact cpS_55) hhow
      rw [a6.2.1 56 (by decide), cpS_56] at c1
      by_cases hlt : i < 200
      · left
        rw [hd2 hp hlt, c1]
        exact ⟨_, _, hlt, rfl, M2 i r1 τ' hi a4 hp m1, rfl, rfl, c2, m2, frm_trans a5 c3, ⟨m3.1.trans a6.1, fun j hj => (m3.2.1 j hj).trans (a6.2.1 j hj), fun k p1 p2 p3 p4 p5 => ⟨((m3.2.2 k p1 p2 p3 p4 p5).1).trans (a6.2.2 k p1 p2 p3 p4 p5).1, ((m3.2.2 k p1 p2 p3 p4 p5).2).trans (a6.2.2 k p1 p2 p3 p4 p5).2⟩⟩, c4⟩
      · right
        have : i = 200 := by omega
        subst this
        refine ⟨(-2, s1), A' τ', fun k => lp_inr ?_, fun k => ?_, τ', a3, fc, m2, frM_trans fm (frM_q m3), m3.1.trans f2, Or.inr ⟨rfl, rfl⟩⟩
        · exact hd3 hp rfl
        · rw [lp_inl (M2 200 r1 τ' hi a4 hp m1), lp_inr (M3 τ' m2)]
  obtain ⟨x, y, g1, g2, τ1, g3, g4, g5, g6, g7, g8⟩ := main
  exact ⟨x.1, x.2, y, τ1, g1, g2, g3, g4, g5, g6, g7, g8⟩
/-! criteria -/
theorem sub_iff {K W : Int32} : (K &&& W) = W ↔ ∀ i, i < 32 → bt W i = true → bt K i = true := by
  constructor
  · intro h i hi hw
    have : bt (K &&& W) i = true := by rw [h]; exact hw
    rw [bt_and, hw, Bool.and_true] at this
    exact this
  · intro h
    apply bt_ext
    intro i hi
    rw [bt_and]
    cases hw : bt W i with
    | false => simp
    | true => rw [h i hi hw]; rfl
theorem RW_known {I : Nat → Nat → Int32} {w n h m : Nat} {r : Nat → Int32} (hW : RW I w r n) (hh : h < 6) (hm : m < 4) : r (4 * h + m) = 1 ↔ bt (I w 1) (6 * m + h) = true := by
  rw [(hW.1.2.2.2 h m hh hm).1]
  cases bt (I w 1) (6 * m + h) <;> simp
theorem crit_one {I : Nat → Nat → Int32} {w n h m : Nat} {r : Nat → Int32} (hW : RW I w r n) (hh : h < 6) (hm : m < 4) : (I w 1 &&& ((1 : Int32) <<< (nI (6 * m + h) &&& 31))) = ((1 : Int32) <<< (nI (6 * m + h) &&& 31)) ↔ r (4 * h + m) = 1 := by
  rw [sub_iff, RW_known hW hh hm]
  constructor
  · intro q
    exact q _ (by omega) (by rw [bt_pow (by omega) (by omega)]; simp)
  · intro q i hi hb
    rw [bt_pow (by omega) hi] at hb
    have : i = 6 * m + h := by simpa using hb
    rw [this]
    exact q
theorem knowsM_at {h m li : Nat} {D : TxD} {τ : hSt} (hM : TM li D τ) (hh : h < 6) (hm : m < 4) : F_X12_knows 0 (nI h) (nI m) τ = some (if τ.1 37 (4 * h + m) = 1 then 1 else 0) := knowsM_eq hM.1 hh hm
/-- knownBy beside daysTill -/
theorem knownBy_both {wanted sil : Int32} {how b t li h m : Nat} {D : TxD} {σ τ : hSt}
    (ht : Rat t σ.2.2) (hD : TXok D) (hT : TC t D σ) (hM : TM li D τ) (hR : Rst (tH D) (tM D) b σ τ) (hb : b + 300 < 2 ^ 30) (hhow : how < 4) (hh : h < 6) (hm : m < 4) :
    ∃ v σ' τ1, F_X11_daysTill 0 ((1 : Int32) <<< (nI (6 * m + h) &&& 31)) (nI how) sil σ = some (v, σ') ∧ F_X12_knownBy 0 (nI m) (nI h) (cpS τ (nI how) sil) = some (v, τ1) ∧ TC t D σ' ∧ frC t σ σ' ∧ TM li D τ1 ∧ frM τ τ1 ∧ τ1.2.2 = τ.2.2 ∧ ((∃ k, k ≤ 200 ∧ v = nI k) ∨ v = -2) := by
  obtain ⟨v, σ', y, τ1, g1, g2, g3, g4, g5, g6, g7, g8⟩ := till_both (S' := S_X12_knownBy_2 0 (nI m) (nI h)) (A := fun i r => (nI i, r)) (A' := fun r => (-2, r)) (P := fun r => r (4 * h + m) = 1) (wanted := (1 : Int32) <<< (nI (6 * m + h) &&& 31)) (sil := sil) (how := how) ht hD hT hM hR hb hhow
    (fun I r n hW => crit_one hW hh hm)
    (fun i r1 hi hr hp => by
      unfold S_X12_knownBy_2 F_X12_knownBy_2b
      dsimp only
      rw [if_neg (show ¬ (200 : Int32) < nI i from nI_nlt (a := 200) hi (by decide)), knowsM_at hr hh hm, if_pos hp]
      simp only [Option.bind_some, if_neg ne_10])
    (fun i r1 r2 hi hr hp hd => by
      unfold S_X12_knownBy_2 F_X12_knownBy_2b cL
      dsimp only
      rw [if_neg (show ¬ (200 : Int32) < nI i from nI_nlt (a := 200) hi (by decide)), knowsM_at hr hh hm, if_neg hp]
      simp only [Option.bind_some, if_true]
      rw [hd, nI_1]
      rfl)
    (fun r1 hr => by
      unfold S_X12_knownBy_2 F_X12_knownBy_2b
      dsimp only
      rw [if_pos (show (200 : Int32) < nI 201 by decide)])
  rcases g8 with ⟨k, hk, e1, e2⟩ | ⟨e1, e2⟩
  · exact ⟨v, σ', τ1, g1, by rw [e1, ← e2]; exact g2, g3, g4, g5, g6, g7, Or.inl ⟨k, hk, e1⟩⟩
  · exact ⟨v, σ', τ1, g1, by rw [e1, ← e2]; exact g2, g3, g4, g5, g6, g7, Or.inr e1⟩
theorem byRule_eq {b : Nat} {σ τ : hSt} {x y : Int32} (hb : b + 300 < 2 ^ 30) (h : Rr b σ τ) : ∃ v σ' τ', F_X11_byRule 0 x y σ = some (v, σ') ∧ F_X12_byRule 0 x y τ = some (v, τ') ∧ Rr b σ' τ' := by
  have h00 := h
  obtain ⟨t, li, D, ht, hD, hT, hM, hR⟩ := h
  have d1 := hD.1
  have d2 := hD.2.1
  unfold F_X11_byRule F_X12_byRule
  rcases news_eq (x := x) hD ht hT.1 hM with ⟨m, hm, e, q1, q2⟩ | ⟨q1, q2⟩
  · subst e
    rw [q1, q2]
    simp only [Option.bind_some, if_neg ne_10]
    rcases hill_eq (x := y) hD ht hT.1 hM with ⟨k, hk, e, q3, q4⟩ | ⟨q3, q4⟩
    · subst e
      rw [q3, q4]
      simp only [Option.bind_some, if_neg ne_10]
      rw [pairOf_eq, copiesM hM]
      simp only [Option.bind_some]
      rw [Rat_c ht, hT.1.2.1.2.2.1]
      obtain ⟨v, σ', τ1, g1, g2, g3, g4, g5, g6, g7, -⟩ := knownBy_both (wanted := 0) (sil := -1) (how := tO D) ht hD hT hM hR hb hD.2.2.2.1 (show k < 6 by omega) (show m < 4 by omega)
      rw [cC_t g1, cC_t g2]
      exact ⟨v, σ', τ1, rfl, rfl, Rr_ro ht hD hR g3 g5 g4 g6⟩
    · rw [q3, q4]
      simp only [Option.bind_some, if_true]
      exact ⟨-1, σ, τ, rfl, rfl, h00⟩
  · rw [q1, q2]
    simp only [Option.bind_some, if_true]
    exact ⟨-1, σ, τ, rfl, rfl, h00⟩
/-! agreed -/
theorem crit_four {I : Nat → Nat → Int32} {w n a b m o : Nat} {r : Nat → Int32} (hW : RW I w r n) (ha : a < 6) (hb : b < 6) (hm : m < 4) (ho : o < 4) :
    (I w 1 &&& (((((1 : Int32) <<< (nI a &&& 31)) ||| ((1 : Int32) <<< (nI b &&& 31))) <<< (((6 : Int32) * nI m) &&& 31)) ||| ((((1 : Int32) <<< (nI a &&& 31)) ||| ((1 : Int32) <<< (nI b &&& 31))) <<< (((6 : Int32) * nI o) &&& 31)))) = (((((1 : Int32) <<< (nI a &&& 31)) ||| ((1 : Int32) <<< (nI b &&& 31))) <<< (((6 : Int32) * nI m) &&& 31)) ||| ((((1 : Int32) <<< (nI a &&& 31)) ||| ((1 : Int32) <<< (nI b &&& 31))) <<< (((6 : Int32) * nI o) &&& 31))) ↔ (r (4 * a + m) = 1 ∧ r (4 * a + o) = 1 ∧ r (4 * b + m) = 1 ∧ r (4 * b + o) = 1) := by
  have two : ∀ i, i < 32 → bt (((1 : Int32) <<< (nI a &&& 31)) ||| ((1 : Int32) <<< (nI b &&& 31))) i = (decide (i = a) || decide (i = b)) := fun i hi => by rw [bt_or, bt_pow (by omega) hi, bt_pow (by omega) hi]
  rw [show (6 : Int32) = nI 6 from rfl, pk_mul, pk_mul, sub_iff, RW_known hW ha hm, RW_known hW ha ho, RW_known hW hb hm, RW_known hW hb ho]
  have key : ∀ i, i < 32 → (bt ((((((1 : Int32) <<< (nI a &&& 31)) ||| ((1 : Int32) <<< (nI b &&& 31))) <<< (nI (6 * m) &&& 31)) ||| ((((1 : Int32) <<< (nI a &&& 31)) ||| ((1 : Int32) <<< (nI b &&& 31))) <<< (nI (6 * o) &&& 31)))) i = true ↔ (i = 6 * m + a ∨ i = 6 * m + b ∨ i = 6 * o + a ∨ i = 6 * o + b)) := by
    intro i hi
    rw [bt_or, bt_shl (by omega) hi, bt_shl (by omega) hi]
    simp only [Bool.or_eq_true, Bool.and_eq_true, decide_eq_true_eq]
    constructor
    · rintro (⟨h1, h2⟩ | ⟨h1, h2⟩)
      · rw [two _ (by omega)] at h2
        simp only [Bool.or_eq_true, decide_eq_true_eq] at h2
        omega
      · rw [two _ (by omega)] at h2
        simp only [Bool.or_eq_true, decide_eq_true_eq] at h2
        omega
    · intro h
      by_cases hq : i = 6 * m + a ∨ i = 6 * m + b
      · refine Or.inl ⟨by omega, ?_⟩
        rw [two _ (by omega)]
        simp only [Bool.or_eq_true, decide_eq_true_eq]
        omega
      · refine Or.inr ⟨by omega, ?_⟩
        rw [two _ (by omega)]
        simp only [Bool.or_eq_true, decide_eq_true_eq]
        omega
  constructor
  · intro q
    exact ⟨q _ (by omega) ((key _ (by omega)).mpr (by omega)), q _ (by omega) ((key _ (by omega)).mpr (by omega)), q _ (by omega) ((key _ (by omega)).mpr (by omega)), q _ (by omega) ((key _ (by omega)).mpr (by omega))⟩
  · rintro ⟨q1, q2, q3, q4⟩ i hi hb
    rcases (key i hi).mp hb with e | e | e | e <;> rw [e] <;> assumption
theorem agreed_eq {b : Nat} {σ τ : hSt} {x y z w : Int32} (hb : b + 300 < 2 ^ 30) (h : Rr b σ τ) : ∃ v σ' τ', F_X11_agreed 0 x y z w σ = some (v, σ') ∧ F_X12_agreed 0 x y z w τ = some (v, τ') ∧ Rr b σ' τ' := by
  have h00 := h
  obtain ⟨t, li, D, ht, hD, hT, hM, hR⟩ := h
  have d1 := hD.1
  have d2 := hD.2.1
  unfold F_X11_agreed F_X12_agreed
  rcases hill_eq (x := x) hD ht hT.1 hM with ⟨a, ha, e, q1, q2⟩ | ⟨q1, q2⟩
  · subst e
    rw [q1, q2]
    simp only [Option.bind_some, if_neg ne_10]
    rcases hill_eq (x := y) hD ht hT.1 hM with ⟨c, hc, e, q3, q4⟩ | ⟨q3, q4⟩
    · subst e
      rw [q3, q4]
      simp only [Option.bind_some, if_neg ne_10]
      by_cases hac : nI a = nI c
      · simp only [if_pos hac]
        exact ⟨-1, σ, τ, rfl, rfl, h00⟩
      · simp only [if_neg hac]
        rcases news_eq (x := z) hD ht hT.1 hM with ⟨m, hm, e, q5, q6⟩ | ⟨q5, q6⟩
        · subst e
          rw [q5, q6]
          simp only [Option.bind_some, if_neg ne_10]
          rcases news_eq (x := w) hD ht hT.1 hM with ⟨o, ho, e, q7, q8⟩ | ⟨q7, q8⟩
          · subst e
            rw [q7, q8]
            simp only [Option.bind_some, if_neg ne_10]
            rw [copiesM hM]
            simp only [Option.bind_some]
            unfold cL
            dsimp only
            rw [Rat_c ht, hT.1.2.1.2.2.1]
            obtain ⟨v, σ', u, τ1, g1, g2, g3, g4, g5, g6, g7, g8⟩ := till_both (S' := S_X12_agreed_47 0 (nI a) (nI c) (nI m) (nI o)) (A := fun i r => (nI i, r)) (A' := fun r => (-2, r)) (P := fun r => r (4 * a + m) = 1 ∧ r (4 * a + o) = 1 ∧ r (4 * c + m) = 1 ∧ r (4 * c + o) = 1) (sil := -1) (how := tO D) ht hD hT hM hR hb hD.2.2.2.1
              (fun I r n hW => crit_four hW (show a < 6 by omega) (show c < 6 by omega) (show m < 4 by omega) (show o < 4 by omega))
              (fun i r1 hi hr hp => by
                unfold S_X12_agreed_47 F_X12_agreed_47b
                dsimp only
                rw [if_neg (show ¬ (200 : Int32) < nI i from nI_nlt (a := 200) hi (by decide)), knowsM_at hr (by omega) (by omega), knowsM_at hr (by omega) (by omega), knowsM_at hr (by omega) (by omega), knowsM_at hr (by omega) (by omega), if_pos hp.1, if_pos hp.2.1, if_pos hp.2.2.1, if_pos hp.2.2.2]
                simp only [Option.bind_some, if_neg ne_10])
              (fun i r1 r2 hi hr hp hd => by
                have h96 : F_X12_agreed_96 0 (nI a) (nI c) (nI m) (nI o) (nI i) r1 = some (.inl (nI (i + 1), r2)) := by
                  unfold F_X12_agreed_96 cL
                  rw [hd, nI_1]
                  rfl
                unfold S_X12_agreed_47 F_X12_agreed_47b
                dsimp only
                rw [if_neg (show ¬ (200 : Int32) < nI i from nI_nlt (a := 200) hi (by decide)), knowsM_at hr (by omega) (by omega), knowsM_at hr (by omega) (by omega), knowsM_at hr (by omega) (by omega), knowsM_at hr (by omega) (by omega), h96]
                simp only [Option.bind_some, ite_10]
                by_cases p1 : r1.1 37 (4 * a + m) = 1
                · by_cases p2 : r1.1 37 (4 * a + o) = 1
                  · by_cases p3 : r1.1 37 (4 * c + m) = 1
                    · by_cases p4 : r1.1 37 (4 * c + o) = 1
                      · exact absurd ⟨p1, p2, p3, p4⟩ hp
                      · simp only [if_pos p1, if_pos p2, if_pos p3, if_neg p4]
                    · simp only [if_pos p1, if_pos p2, if_neg p3]
                  · simp only [if_pos p1, if_neg p2]
                · simp only [if_neg p1])
              (fun r1 hr => by
                unfold S_X12_agreed_47 F_X12_agreed_47b
                dsimp only
                rw [if_pos (show (200 : Int32) < nI 201 by decide)])
            rw [cC_t g1]
            refine ⟨v, σ', τ1, rfl, ?_, Rr_ro ht hD hR g3 g5 g4 g6⟩
            rcases g8 with ⟨k, hk, e1, e2⟩ | ⟨e1, e2⟩
            · rw [e1, ← e2]; exact g2
            · rw [e1, ← e2]; exact g2
          · rw [q7, q8]
            simp only [Option.bind_some, if_true]
            exact ⟨-1, σ, τ, rfl, rfl, h00⟩
        · rw [q5, q6]
          simp only [Option.bind_some, if_true]
          exact ⟨-1, σ, τ, rfl, rfl, h00⟩
    · rw [q3, q4]
      simp only [Option.bind_some, if_true]
      exact ⟨-1, σ, τ, rfl, rfl, h00⟩
  · rw [q1, q2]
    simp only [Option.bind_some, if_true]
    exact ⟨-1, σ, τ, rfl, rfl, h00⟩
