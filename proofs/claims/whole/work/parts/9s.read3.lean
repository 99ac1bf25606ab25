/-! ===== PURE 83: before the tells: the model ===== -/
theorem cL_e {α β : Type} {x : β} {k : β → Option α} : cL x k = k x := rfl
theorem read_setM {n s li : Nat} {b : Nat → Nat} {τ : hSt} (hQ : HM τ.2.2) (hn : n ≤ 2000) (e2 : τ.1 0 2 = nI n) (hb1 : ∀ i, i < n → (τ.1 1 i) &&& 255 = nI (b i)) (hb : ∀ i, b i < 256) (hk : ∀ k, k < 19 → τ.2.1 7 k = kyV k) (e18 : τ.1 0 18 = nI li) (hs : li + s = 1) :
    ∃ τ4, F_X12_read 0 τ = F_X12_read_190 0 τ4 ∧ LvM n b 0 τ4 ∧ τ4.1 0 15 = 0 ∧ τ4.2.2 = τ.2.2 ∧ (∀ c, c ≠ 6 → τ4.2.1 c = τ.2.1 c) ∧ (τ4.1 0 2 = 0 ∧ τ4.1 0 12 = 0 ∧ τ4.1 0 19 = nI s ∧ τ4.1 0 20 = 0 ∧ τ4.1 0 38 = nI (130 * s) ∧ τ4.1 0 44 = nI (420 * s)) ∧
      (∀ j, j ≠ 2 → j ≠ 4 → j ≠ 10 → j ≠ 11 → j ≠ 12 → j ≠ 13 → j ≠ 15 → j ≠ 19 → j ≠ 20 → j ≠ 38 → j ≠ 44 → τ4.1 0 j = τ.1 0 j) ∧
      (∀ c, c ≠ 0 → c ≠ 2 → c ≠ 3 → c ≠ 4 → c ≠ 5 → ∀ j, τ4.1 c j = if c = 24 ∧ j = s then 0 else if c = 23 ∧ j = s then 0 else if c = 19 ∧ j = s then 0 else if c = 18 ∧ j = s then 1 else if c = 16 ∧ j = 2 * s + 1 then 0 else if c = 16 ∧ j = 2 * s then 0 else if c = 14 ∧ j = s then 0 else if c = 11 ∧ j = s then 0 else τ.1 c j) := by
  have hs1 : s < 2 := by omega
  obtain ⟨τ0, h0⟩ : ∃ x, x = uI τ 0 4 (nI n) := ⟨_, rfl⟩
  have Q0 : HM τ0.2.2 := by rw [h0]; exact hQ
  obtain ⟨g, hg⟩ : ∃ g : Nat → Int32, g = fun j => vp_nar .byte (τ.1 1 j) := ⟨_, rfl⟩
  obtain ⟨τ1, h1⟩ : ∃ x, x = uI (uA τ0 2 (cpR n g (τ.1 2))) 0 2 0 := ⟨_, rfl⟩
  have Q1 : HM τ1.2.2 := by rw [h1]; exact Q0
  have f1 : ∀ j, j ≠ 2 → j ≠ 4 → τ1.1 0 j = τ.1 0 j := fun j p q => by rw [h1, uI_ne _ _ (by omega), uA_row _ _ (by decide), h0, uI_ne _ _ (by omega)]
  have r1 : ∀ c, c ≠ 0 → c ≠ 2 → τ1.1 c = τ.1 c := fun c p q => by rw [h1, uI_row _ _ p, uA_row _ _ q, h0, uI_row _ _ p]
  have g1 : τ1.2.1 = τ.2.1 := by rw [h1, h0]; rfl
  have P1 : τ1.2.2 = τ.2.2 := by rw [h1, h0]; rfl
  have tp : TpM n b τ1 := by
    refine ⟨Q1, ?_, hn, fun i hi => ?_, hb, by rw [g1]; exact hk⟩
    · rw [h1, uI_ne _ _ (by omega), uA_row _ _ (by decide), h0, uI_I, if_pos ⟨rfl, rfl⟩]
    · rw [h1, uI_row _ _ (by decide), uA_own, cpR_lo hi, hg]
      show vp_nar .byte (τ.1 1 i) &&& 255 = _
      rw [byte_255]
      exact hb1 i hi
  obtain ⟨τ2, c, k1, k2, k3, k4, k5⟩ := cut_eq tp
  have Q2 : HM τ2.2.2 := by rw [k2.1]; exact Q1
  have e18' : τ2.1 0 18 = nI li := by rw [k2.2.1 18 (by decide), f1 18 (by decide) (by decide)]; exact e18
  obtain ⟨z0, w0⟩ : ∃ x, x = uI (uI (uI (uI (uI (uI τ2 0 11 0) 0 12 0) 0 13 0) 0 15 0) 0 19 (nI s)) 0 20 0 := ⟨_, rfl⟩
  have q0 : z0.1 0 19 = nI s := by rw [w0, uI_ne _ _ (by omega), uI_I, if_pos ⟨rfl, rfl⟩]
  have H0 : HM z0.2.2 := by rw [w0]; exact Q2
  obtain ⟨z1, w1⟩ : ∃ x, x = uI z0 11 s 0 := ⟨_, rfl⟩
  have q1 : z1.1 0 19 = nI s := by rw [w1, uI_row _ _ (by decide)]; exact q0
  have H1 : HM z1.2.2 := by rw [w1]; exact H0
  obtain ⟨z2, w2⟩ : ∃ x, x = uI z1 14 s 0 := ⟨_, rfl⟩
  have q2 : z2.1 0 19 = nI s := by rw [w2, uI_row _ _ (by decide)]; exact q1
  have H2 : HM z2.2.2 := by rw [w2]; exact H1
  obtain ⟨z3, w3⟩ : ∃ x, x = uI z2 16 (2 * s) 0 := ⟨_, rfl⟩
  have q3 : z3.1 0 19 = nI s := by rw [w3, uI_row _ _ (by decide)]; exact q2
  have H3 : HM z3.2.2 := by rw [w3]; exact H2
  obtain ⟨z4, w4⟩ : ∃ x, x = uI z3 16 (2 * s + 1) 0 := ⟨_, rfl⟩
  have q4 : z4.1 0 19 = nI s := by rw [w4, uI_row _ _ (by decide)]; exact q3
  have H4 : HM z4.2.2 := by rw [w4]; exact H3
  obtain ⟨z5, w5⟩ : ∃ x, x = uI z4 18 s 1 := ⟨_, rfl⟩
  have q5 : z5.1 0 19 = nI s := by rw [w5, uI_row _ _ (by decide)]; exact q4
  have H5 : HM z5.2.2 := by rw [w5]; exact H4
  obtain ⟨z6, w6⟩ : ∃ x, x = uI z5 19 s 0 := ⟨_, rfl⟩
  have q6 : z6.1 0 19 = nI s := by rw [w6, uI_row _ _ (by decide)]; exact q5
  have H6 : HM z6.2.2 := by rw [w6]; exact H5
  obtain ⟨z7, w7⟩ : ∃ x, x = uI z6 0 38 (nI (130 * s)) := ⟨_, rfl⟩
  have q7 : z7.1 0 19 = nI s := by rw [w7, uI_ne _ _ (by omega)]; exact q6
  have H7 : HM z7.2.2 := by rw [w7]; exact H6
  obtain ⟨z8, w8⟩ : ∃ x, x = uI z7 0 44 (nI (420 * s)) := ⟨_, rfl⟩
  have q8 : z8.1 0 19 = nI s := by rw [w8, uI_ne _ _ (by omega)]; exact q7
  have H8 : HM z8.2.2 := by rw [w8]; exact H7
  obtain ⟨z9, w9⟩ : ∃ x, x = uI z8 23 s 0 := ⟨_, rfl⟩
  have q9 : z9.1 0 19 = nI s := by rw [w9, uI_row _ _ (by decide)]; exact q8
  have H9 : HM z9.2.2 := by rw [w9]; exact H8
  obtain ⟨z10, w10⟩ : ∃ x, x = uI z9 24 s 0 := ⟨_, rfl⟩
  have b2 : ∀ c, (kM c).2 = 2 → inb (nI s) (kM c).2 = true := fun c e => inb_nI (by rw [e]; exact hs1) (by rw [e]; decide)
  have cl : (nI s).toNatClampNeg = s := cl_nI (by omega)
  have m1 : (1 : Int32) - nI li = nI s := by
    rcases (show li = 0 ∧ s = 1 ∨ li = 1 ∧ s = 0 by omega) with ⟨a, a'⟩ | ⟨a, a'⟩ <;> subst a a' <;> decide
  have m2 : (2 : Int32) * nI s = nI (2 * s) := by rw [show (2 : Int32) = nI 2 from rfl, pk_mul]
  have m130 : (130 : Int32) * nI s = nI (130 * s) := by rw [show (130 : Int32) = nI 130 from rfl, pk_mul]
  have m420 : (420 : Int32) * nI s = nI (420 * s) := by rw [show (420 : Int32) = nI 420 from rfl, pk_mul]
  have row : ∀ c, c ≠ 0 → ∀ j, z10.1 c j = if c = 24 ∧ j = s then 0 else if c = 23 ∧ j = s then 0 else if c = 19 ∧ j = s then 0 else if c = 18 ∧ j = s then 1 else if c = 16 ∧ j = 2 * s + 1 then 0 else if c = 16 ∧ j = 2 * s then 0 else if c = 14 ∧ j = s then 0 else if c = 11 ∧ j = s then 0 else τ2.1 c j := fun c hc j => by
    rw [w10, uI_I, w9, uI_I, w8, uI_row _ _ hc, w7, uI_row _ _ hc, w6, uI_I, w5, uI_I, w4, uI_I, w3, uI_I, w2, uI_I, w1, uI_I, w0, uI_row _ _ hc, uI_row _ _ hc, uI_row _ _ hc, uI_row _ _ hc, uI_row _ _ hc, uI_row _ _ hc]
  have fld : ∀ j, z10.1 0 j = if 0 = 0 ∧ j = 44 then nI (420 * s) else if 0 = 0 ∧ j = 38 then nI (130 * s) else if 0 = 0 ∧ j = 20 then 0 else if 0 = 0 ∧ j = 19 then nI s else if 0 = 0 ∧ j = 15 then 0 else if 0 = 0 ∧ j = 13 then 0 else if 0 = 0 ∧ j = 12 then 0 else if 0 = 0 ∧ j = 11 then 0 else τ2.1 0 j := fun j => by
    rw [w10, uI_row _ _ (by decide), w9, uI_row _ _ (by decide), w8, uI_I, w7, uI_I, w6, uI_row _ _ (by decide), w5, uI_row _ _ (by decide), w4, uI_row _ _ (by decide), w3, uI_row _ _ (by decide), w2, uI_row _ _ (by decide), w1, uI_row _ _ (by decide), w0, uI_I, uI_I, uI_I, uI_I, uI_I, uI_I]
  have z2e : z10.2 = τ2.2 := by rw [w10, w9, w8, w7, w6, w5, w4, w3, w2, w1, w0]; rfl
  -- the last round of the copying
  have last : F_X12_read_10b 0 (nI n) (uA τ0 2 (cpR n g (τ.1 2))) = (F_X12_read_190 0 z10).map (fun x => .inr x) := by
    have e4 : (uA τ0 2 (cpR n g (τ.1 2))).1 0 4 = nI n := by rw [uA_row _ _ (by decide), h0, uI_I, if_pos ⟨rfl, rfl⟩]
    unfold F_X12_read_10b
    rw [if_pos (by rw [e4]; exact nI_le (Nat.le_refl _) (by omega)), cL_e, ← h1, k1, Option.bind_some]
    rw [cL_e, cL_e, cL_e, cL_e, cL_e, uI_ne _ _ (show ¬ (0 = 0 ∧ 18 = 15) by decide), uI_ne _ _ (show ¬ (0 = 0 ∧ 18 = 13) by decide), uI_ne _ _ (show ¬ (0 = 0 ∧ 18 = 12) by decide), uI_ne _ _ (show ¬ (0 = 0 ∧ 18 = 11) by decide), e18', m1, cL_e, ← w0]
    rw [rM_24 H0, q0, cG_t (b2 11 kM_11), cl, cL_e, ← w1]
    rw [rM_27 H1, q1, cG_t (b2 14 kM_14), cl, cL_e, ← w2]
    rw [rM_29 H2, q2, m2, cG_t (inb_nI (by rw [kM_16]; omega) (by decide)), cl_nI (by omega), cL_e, ← w3]
    rw [rM_29 H3, q3, m2, nI_1, cG_t (inb_nI (by rw [kM_16]; omega) (by decide)), cl_nI (by omega), cL_e, ← w4]
    rw [rM_31 H4, q4, cG_t (b2 18 kM_18), cl, cL_e, ← w5]
    rw [rM_32 H5, q5, cG_t (b2 19 kM_19), cl, cL_e, ← w6]
    rw [cL_e, q6, m130, ← w7, cL_e, q7, m420, ← w8]
    rw [rM_36 H8, q8, cG_t (b2 23 kM_23), cl, cL_e, ← w9]
    rw [rM_37 H9, q9, cG_t (b2 24 kM_24), cl, cL_e, ← w10]
  have loop : ∀ d i, i + d = n → ∀ N, d + 1 ≤ N → lp (S_X12_read_10 0) N (nI i, uA τ0 2 (cpR i g (τ.1 2))) = F_X12_read_190 0 z10 := by
    intro d
    induction d with
    | zero =>
      intro i hi N hN
      have : i = n := by omega
      subst this
      obtain ⟨N, rfl⟩ : ∃ N', N = N' + 1 := ⟨N - 1, by omega⟩
      refine lp_map ?_
      exact last
    | succ d ih =>
      intro i hi N hN
      obtain ⟨N, rfl⟩ : ∃ N', N = N' + 1 := ⟨N - 1, by omega⟩
      have s1 : S_X12_read_10 0 (nI i, uA τ0 2 (cpR i g (τ.1 2))) = some (.inl (nI (i + 1), uA τ0 2 (cpR (i + 1) g (τ.1 2)))) := by
        have e4 : (uA τ0 2 (cpR i g (τ.1 2))).1 0 4 = nI n := by rw [uA_row _ _ (by decide), h0, uI_I, if_pos ⟨rfl, rfl⟩]
        have Qi : HM (uA τ0 2 (cpR i g (τ.1 2))).2.2 := Q0
        unfold S_X12_read_10 F_X12_read_10b
        dsimp only
        rw [if_neg (by rw [e4]; exact nI_ge (by omega) (by omega)), rM_3 Qi, rM_1 Qi, cG_t (inb_nI (by rw [kM_1]; omega) (by decide)), cG_t (inb_nI (by rw [kM_2]; omega) (by decide)), cL_e, cL_e, cl_nI (by omega), uA_uI, uA_row _ _ (show (1 : Nat) ≠ 2 by decide), nI_1]
        have eg : vp_nar .byte (τ0.1 1 i) = g i := by rw [h0, uI_row _ _ (by decide), hg]
        rw [eg, cpR_s]
      rw [lp_inl s1]
      exact ih (i + 1) (by omega) N (by omega)
  refine ⟨z10, ?_, ⟨?_, ⟨c, ⟨k4, k5⟩, fun i hi => ?_⟩, fun j hj => absurd hj (by omega), ?_, by decide, ?_⟩, ?_, ?_, fun c hc => ?_, ⟨?_, ?_, ?_, ?_, ?_, ?_⟩, fun j p1 p2 p3 p4 p5 p6 p7 p8 p9 p10 p11 => ?_, fun c p0 p2 p3 p4 p5 j => ?_⟩
  · unfold F_X12_read
    rw [cL_e, e2, ← h0]
    have := loop n 0 (by omega) fuel (by rw [fuel_v]; omega)
    rw [cpR_0] at this
    have e : uA τ0 2 (τ.1 2) = τ0 := by
      have := uA_self τ0 2
      rw [h0, uI_row _ _ (by decide)] at this
      rw [h0]
      exact this
    rw [e] at this
    exact this
  · rw [z2e]; exact Q2
  · have r3 : ∀ c, 3 ≤ c → c ≤ 5 → z10.1 c = τ2.1 c := fun c a1 a2 => funext fun j => by rw [row c (by omega) j, if_neg (by omega), if_neg (by omega), if_neg (by omega), if_neg (by omega), if_neg (by omega), if_neg (by omega), if_neg (by omega), if_neg (by omega)]
    rw [r3 3 (by decide) (by decide), r3 4 (by decide) (by decide), r3 5 (by decide) (by decide), z2e]
    exact k3 i hi
  · rw [fld, if_neg (by decide), if_neg (by decide), if_neg (by decide), if_neg (by decide), if_neg (by decide), if_neg (by decide), if_neg (by decide), if_pos ⟨rfl, rfl⟩]; rfl
  · rw [fld, if_neg (by decide), if_neg (by decide), if_neg (by decide), if_neg (by decide), if_neg (by decide), if_pos ⟨rfl, rfl⟩]
  · rw [fld, if_neg (by decide), if_neg (by decide), if_neg (by decide), if_neg (by decide), if_pos ⟨rfl, rfl⟩]
  · rw [z2e, k2.1, P1]
  · rw [z2e, k2.2.2.2 c hc, g1]
  · rw [fld, if_neg (by decide), if_neg (by decide), if_neg (by decide), if_neg (by decide), if_neg (by decide), if_neg (by decide), if_neg (by decide), if_neg (by decide), k2.2.1 2 (by decide), h1, uI_I, if_pos ⟨rfl, rfl⟩]
  · rw [fld, if_neg (by decide), if_neg (by decide), if_neg (by decide), if_neg (by decide), if_neg (by decide), if_neg (by decide), if_pos ⟨rfl, rfl⟩]
  · rw [fld, if_neg (by decide), if_neg (by decide), if_neg (by decide), if_pos ⟨rfl, rfl⟩]
  · rw [fld, if_neg (by decide), if_neg (by decide), if_pos ⟨rfl, rfl⟩]
  · rw [fld, if_neg (by decide), if_pos ⟨rfl, rfl⟩]
  · rw [fld, if_pos ⟨rfl, rfl⟩]
  · rw [fld, if_neg (by omega), if_neg (by omega), if_neg (by omega), if_neg (by omega), if_neg (by omega), if_neg (by omega), if_neg (by omega), if_neg (by omega), k2.2.1 j p3, f1 j p1 p2]
  · rw [row c p0 j, k2.2.2.1 c p0 p3 p4 p5, r1 c p0 p2]
