/-! ===== PURE 35: calls that change nothing but scratch; two loops side by side ===== -/
theorem ne_10 : ¬ (1 : Int32) = 0 := by decide
theorem ite_10 {α : Type} {p : Prop} [Decidable p] {x y : α} : (if (if p then (1 : Int32) else 0) = 0 then x else y) = if p then y else x := by by_cases h : p <;> simp [h]
theorem ite_01 {α : Type} {p : Prop} [Decidable p] {x y : α} : (if (if p then (0 : Int32) else 1) = 0 then x else y) = if p then x else y := by by_cases h : p <;> simp [h]
theorem Rr_ro {b t li : Nat} {D : TxD} {σ σ' τ τ' : hSt} (ht : Rat t σ.2.2) (hD : TXok D) (hR : Rst (tH D) (tM D) b σ τ) (hC : TC t D σ') (hM : TM li D τ') (f : frC t σ σ') (g : frM τ τ') : Rr b σ' τ' :=
  ⟨t, li, D, by rw [f.1]; exact ht, hD, hC, hM, Rst_fr hR ht.2 f g⟩
theorem lp_two_run {V X W Y : Type} {s : V → Option (V ⊕ X)} {s' : W → Option (W ⊕ Y)} {N : Nat} (inv : Nat → V → W → Prop) (post : X → Y → Prop)
    (hs : ∀ i v w, i ≤ N → inv i v w → (∃ v' w', i < N ∧ s v = some (.inl v') ∧ s' w = some (.inl w') ∧ inv (i + 1) v' w') ∨ (∃ x y, s v = some (.inr x) ∧ s' w = some (.inr y) ∧ post x y)) :
    ∀ (k i : Nat) (v : V) (w : W), i ≤ N → N + 1 ≤ i + k → inv i v w → ∃ x y, lp s k v = some x ∧ lp s' k w = some y ∧ post x y
  | 0, i, v, w, hi, hk, _ => absurd hk (by omega)
  | k + 1, i, v, w, hi, hk, h => by
    rcases hs i v w hi h with ⟨v', w', h1, h2, h3, h4⟩ | ⟨x, y, h2, h3, h4⟩
    · rw [lp_inl h2, lp_inl h3]
      exact lp_two_run inv post hs k (i + 1) v' w' h1 (by omega) h4
    · exact ⟨x, y, lp_inr h2, lp_inr h3, h4⟩
/-- two loops side by side -/
theorem lp_two {V X W Y : Type} {s : V → Option (V ⊕ X)} {s' : W → Option (W ⊕ Y)} (N : Nat) (hN : N < fuel) (inv : Nat → V → W → Prop) (post : X → Y → Prop) {v : V} {w : W} (h0 : inv 0 v w)
    (hs : ∀ i v w, i ≤ N → inv i v w → (∃ v' w', i < N ∧ s v = some (.inl v') ∧ s' w = some (.inl w') ∧ inv (i + 1) v' w') ∨ (∃ x y, s v = some (.inr x) ∧ s' w = some (.inr y) ∧ post x y)) : ∃ x y, lp s fuel v = some x ∧ lp s' fuel w = some y ∧ post x y :=
  lp_two_run inv post hs fuel 0 v w (Nat.zero_le _) (by omega) h0
theorem hears_eq {b : Nat} {σ τ : hSt} {x y z : Int32} (h : Rr b σ τ) : ∃ v σ' τ', F_X11_hears 0 x y z σ = some (v, σ') ∧ F_X12_hears 0 x y z τ = some (v, τ') ∧ Rr b σ' τ' := by
  have h0 := h
  obtain ⟨t, li, D, ht, hD, hC, hM, hR⟩ := h
  unfold F_X11_hears F_X12_hears
  rcases hill_eq (x := x) hD ht hC.1 hM with ⟨a, ha, e, q1, q2⟩ | ⟨q1, q2⟩
  · subst e
    rw [q1, q2]
    simp only [Option.bind_some, if_neg ne_10]
    rcases hill_eq (x := y) hD ht hC.1 hM with ⟨c, hc, e, q3, q4⟩ | ⟨q3, q4⟩
    · subst e
      rw [q3, q4]
      simp only [Option.bind_some, if_neg ne_10]
      rcases inM_le (x := z) (n := 9999) (τ := τ) (by decide) with ⟨d, hd, e, q5⟩ | ⟨q5, q6⟩
      · subst e
        rw [show (9999 : Int32) = nI 9999 from rfl, q5, if_neg (nI_pos (by omega)), if_pos (nI_le hd (by decide))]
        simp only [Option.bind_some, if_neg ne_10]
        obtain ⟨τ', w1, w2⟩ := isHeardM_eq hD hM ha hc (show d < 2 ^ 30 by omega)
        rw [cC_t w1, ite_10]
        have d1 := hD.1
        by_cases hac : a = c
        · rw [if_pos (by rw [hac])]
          refine ⟨1, σ, τ', rfl, ?_, Rr_ro ht hD hR hC (TM_W hM w2) frC_rfl (frM_W w2)⟩
          rw [if_pos (by unfold earD; simp [hac])]
          rfl
        · rw [if_neg (fun q => hac ((nI_eq (by omega) (by omega)).mp q)), Rat_c ht]
          obtain ⟨σ', z1, z2, z3⟩ := lawTells_eq hD (Rat_ok ht).1 hC.1 ha hc (show d < 2 ^ 30 by omega)
          rw [cC_t z1, ite_01]
          have hC' : TC t D σ' := ⟨TC0_L hC.1 z2, by rw [z2.2.1 (t + 16) (by omega) (by omega) (by omega), z3]; exact hC.2⟩
          have hR' := Rr_ro ht hD hR hC' (TM_W hM w2) ⟨z2.1, fun k a _ _ => z2.2.1 k (by omega) (by omega) (by omega)⟩ (frM_W w2)
          by_cases hl : lawD D d a c ≤ 0
          · rw [if_pos hl, if_neg (by unfold earD; simp [hac, hl])]
            exact ⟨0, σ', τ', rfl, rfl, hR'⟩
          · rw [if_neg hl, if_pos (by unfold earD; simp [hl])]
            exact ⟨1, σ', τ', rfl, rfl, hR'⟩
      · rw [show (9999 : Int32) = nI 9999 from rfl, q5]
        simp only [Option.bind_some, if_true]
        refine ⟨-1, σ, τ, ?_, rfl, h0⟩
        by_cases hz : z < 0
        · rw [if_pos hz]; rfl
        · rw [if_neg hz, if_neg (Int32.not_le.mpr (q6.resolve_left hz))]; rfl
    · rw [q3, q4]
      exact ⟨-1, σ, τ, rfl, rfl, h0⟩
  · rw [q1, q2]
    exact ⟨-1, σ, τ, rfl, rfl, h0⟩
theorem bits3 (a b : Bool) : (((if a then 1 else 0) ||| (if b then 2 else 0) : Int32) = 3) ↔ (a && b) = true := by cases a <;> cases b <;> decide
theorem news_ans {b : Nat} {σ τ : hSt} {x y z : Int32} (h : Rr b σ τ) : ∃ v, F_X11_news 0 x y z σ = some v ∧ F_X12_news 0 x y z τ = some v := by
  obtain ⟨t, li, D, ht, hD, hC, hM, hR⟩ := h
  have hP : HC σ.2.2 := hC.1.1
  have hQ : HM τ.2.2 := hM.1
  have d1 : tH D ≤ 6 := hD.1
  have d2 : tM D ≤ 4 := hD.2.1
  unfold F_X11_news F_X12_news
  rcases hill_eq (x := x) hD ht hC.1 hM with ⟨a, ha, e, q1, q2⟩ | ⟨q1, q2⟩
  · subst e
    rw [q1, q2]
    simp only [Option.bind_some, if_neg ne_10]
    rcases news_eq (x := y) hD ht hC.1 hM with ⟨c, hc, e, q3, q4⟩ | ⟨q3, q4⟩
    · subst e
      rw [q3, q4]
      simp only [Option.bind_some, if_neg ne_10]
      obtain ⟨n, d, hW, -⟩ := hR.2.2.1
      obtain ⟨r1, r2, r3, r4⟩ := hW.1.2.2.2 a c (by omega) (by omega)
      unfold cL
      dsimp only
      simp only [show (4 : Int32) * nI a = nI 4 * nI a from rfl, pk_mul, nI_add]
      have g0 : inb (nI (4 * a + c)) (kM 36).2 = true := inb_nI (by rw [kM_36]; omega) (by decide)
      have c0 : (nI (4 * a + c)).toNatClampNeg = 4 * a + c := cl_nI (by omega)
      simp only [rC_11_5' hP, knowsC_eq (show a < 6 by omega) (show c < 4 by omega), pairOf_eq, Option.bind_some, ite_10]
      have hneg : ∀ q : Int32, z = q → z < 0 → q < 0 := fun q e h => e ▸ h
      by_cases hz0 : z = 0
      · subst hz0
        simp only [if_neg (show ¬ (0 : Int32) < 0 by decide), if_pos (show (0 : Int32) ≤ 4 by decide), if_neg (show ¬ (0 : Int32) = 4 by decide), if_true]
        rw [rM_53 hQ, cG_t g0, c0, r1]
        cases bt (σ.1 44 1) (6 * c + a)
        · exact ⟨0, rfl, rfl⟩
        · exact ⟨1, rfl, rfl⟩
      by_cases hz1 : z = 1
      · subst hz1
        simp only [if_neg (show ¬ (1 : Int32) < 0 by decide), if_pos (show (1 : Int32) ≤ 4 by decide), if_neg (show ¬ (1 : Int32) = 0 by decide), if_neg (show ¬ (1 : Int32) = 4 by decide), if_true]
        rw [rM_53 hQ, cG_t g0, c0, r1, ite_10]
        cases hb : bt (σ.1 44 1) (6 * c + a)
        · exact ⟨-2, rfl, rfl⟩
        · obtain ⟨s1, s2, s3⟩ := r2 hb
          simp only [if_true]
          rw [rC_10_9 hP (c := 44) (by decide), cG_t (inb_nI (by rw [nC_10_9 (by decide)]; omega) (by rw [nC_10_9 (by decide)]; decide)), cl_nI (by omega), rM_53 hQ, show (24 : Int32) = nI 24 from rfl, nI_add, cG_t (inb_nI (by rw [kM_36]; omega) (by decide)), cl_nI (by omega), s1]
          exact ⟨_, rfl, rfl⟩
      by_cases hz2 : z = 2
      · subst hz2
        simp only [if_neg (show ¬ (2 : Int32) < 0 by decide), if_pos (show (2 : Int32) ≤ 4 by decide), if_neg (show ¬ (2 : Int32) = 0 by decide), if_neg (show ¬ (2 : Int32) = 1 by decide), if_neg (show ¬ (2 : Int32) = 4 by decide), if_true]
        rw [rM_53 hQ, cG_t g0, c0, r1, ite_10]
        cases hb : bt (σ.1 44 1) (6 * c + a)
        · exact ⟨-2, rfl, rfl⟩
        · obtain ⟨s1, s2, s3⟩ := r2 hb
          simp only [if_true]
          rw [rC_10_10 hP (c := 44) (by decide), cG_t (inb_nI (by rw [nC_10_10 (by decide)]; omega) (by rw [nC_10_10 (by decide)]; decide)), cl_nI (by omega), rM_53 hQ, show (48 : Int32) = nI 48 from rfl, nI_add, cG_t (inb_nI (by rw [kM_36]; omega) (by decide)), cl_nI (by omega), s2]
          exact ⟨_, rfl, rfl⟩
      by_cases hz3 : z = 3
      · subst hz3
        simp only [if_neg (show ¬ (3 : Int32) < 0 by decide), if_pos (show (3 : Int32) ≤ 4 by decide), if_neg (show ¬ (3 : Int32) = 0 by decide), if_neg (show ¬ (3 : Int32) = 1 by decide), if_neg (show ¬ (3 : Int32) = 2 by decide), if_neg (show ¬ (3 : Int32) = 4 by decide), if_true]
        rw [rM_53 hQ, cG_t g0, c0, r1, ite_10]
        cases hb : bt (σ.1 44 1) (6 * c + a)
        · exact ⟨-2, rfl, rfl⟩
        · obtain ⟨s1, s2, s3⟩ := r2 hb
          simp only [if_true]
          rw [bt_ask (by omega), rM_53 hQ, show (72 : Int32) = nI 72 from rfl, nI_add, cG_t (inb_nI (by rw [kM_36]; omega) (by decide)), cl_nI (by omega), s3]
          exact ⟨_, rfl, rfl⟩
      by_cases hz4 : z = 4
      · subst hz4
        simp only [if_neg (show ¬ (4 : Int32) < 0 by decide), if_pos (show (4 : Int32) ≤ 4 by decide), if_neg (show ¬ (4 : Int32) = 0 by decide), if_neg (show ¬ (4 : Int32) = 1 by decide), if_neg (show ¬ (4 : Int32) = 2 by decide), if_neg (show ¬ (4 : Int32) = 3 by decide), if_true]
        rw [rM_53 hQ, show (96 : Int32) = nI 96 from rfl, nI_add, cG_t (inb_nI (by rw [kM_36]; omega) (by decide)), cl_nI (by omega), r3]
        have hc : F_X10_clashing 44 σ = some (σ.1 44 5 &&& σ.1 44 6) := rfl
        rw [hc]
        simp only [Option.bind_some]
        rw [bt_ask (by omega), bt_and]
        by_cases hb : (bt (σ.1 44 5) (6 * c + a) && bt (σ.1 44 6) (6 * c + a)) = true
        · rw [if_pos hb, if_pos ((bits3 _ _).mpr hb)]
          exact ⟨1, rfl, rfl⟩
        · rw [if_neg hb, if_neg (fun q => hb ((bits3 _ _).mp q))]
          exact ⟨0, rfl, rfl⟩
      · simp only [if_neg hz0, if_neg hz1, if_neg hz2, if_neg hz3, if_neg hz4]
        refine ⟨-1, ?_, rfl⟩
        by_cases hn : z < 0
        · rw [if_pos hn]; rfl
        · obtain ⟨j, hj, e⟩ := nI_of hn
          subst e
          have h4 : 4 < j := by
            rcases (show j = 0 ∨ j = 1 ∨ j = 2 ∨ j = 3 ∨ j = 4 ∨ 4 < j by omega) with q | q | q | q | q | q
            · exact absurd (by rw [q]; rfl) hz0
            · exact absurd (by rw [q]; rfl) hz1
            · exact absurd (by rw [q]; rfl) hz2
            · exact absurd (by rw [q]; rfl) hz3
            · exact absurd (by rw [q]; rfl) hz4
            · exact q
          rw [if_neg hn, if_neg (show ¬ nI j ≤ (4 : Int32) from nI_ge (a := 4) h4 hj)]
          rfl
    · rw [q3, q4]
      exact ⟨-1, rfl, rfl⟩
  · rw [q1, q2]
    exact ⟨-1, rfl, rfl⟩
