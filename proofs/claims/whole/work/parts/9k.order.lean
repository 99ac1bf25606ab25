/-! ===== PURE 75: the tell of an order; what is no tell ===== -/
theorem ord_in : ∀ d, d < 4 → mkK (136 + d) = 27 + d ∧ nI (27 + d) - (27 : Int32) = nI d ∧ nI (136 + d) - (136 : Int32) = nI d ∧ ¬ nI (136 + d) < (136 : Int32) ∧ nI (136 + d) ≤ (139 : Int32) ∧ ¬ nI d < 0 ∧ nI d ≤ (3 : Int32) := by decide +kernel
theorem ord_out : ∀ x, x ∈ vL → ¬ (136 ≤ x ∧ x ≤ 139) → (nI x < (136 : Int32) ∨ ¬ nI x ≤ (139 : Int32)) ∧ (nI (mkK x) - (27 : Int32) < 0 ∨ ¬ nI (mkK x) - (27 : Int32) ≤ (3 : Int32)) := by decide +kernel
theorem tellOrder_eq {n t s k : Nat} {b : Nat → Nat} {σ τ : hSt} (hn : n ≤ 2000) (hb : ∀ i, b i < 256) (h : PR n b t s k σ τ) (hK : KK n b k = 135) : OutT n b t s k σ τ (F_X4_parseTell 37 σ) (F_X12_tell 0 τ) := by
  obtain ⟨w, wp, D, F, r, ⟨hs, ⟨hH, hM, hS⟩, ⟨e0, e3, e9⟩, ⟨m19, m11, m14, m19s, m20, m12⟩, c, e, m44, hc, m38, he⟩, hT⟩ := h
  have hP := r.1.1
  have hp3 := r.1.2.1
  have ht := r.1.2.2.1
  obtain ⟨t1, t2, t3⟩ := t_ok ht
  obtain ⟨hQ, e11, gk, ck, k3⟩ := tellM_head r.2.1
  obtain ⟨v, σ1, τ1, g1, p1, f1, q1, z⟩ := both_go hb r hK (by decide) (by decide)
  have g18 : inb (nI s) (kM 18).2 = true := inb_nI (by rw [kM_18]; exact hs) (by decide)
  have EC : F_X4_parseTell 37 σ = ((F_X4_kind 37 σ1).bind fun v7 => if v7 < (136 : Int32) then F_X4_parseOrder_27 37 σ1 else if v7 ≤ (139 : Int32) then cC (F_X4_take 37 v7 σ1) fun v9 σ10 => cR (σ10.2.2 37 3) (okr kC NC 7) fun z11 => cL (uI σ10 z11 8 (v7 - (136 : Int32))) fun σ12 => some σ12 else F_X4_parseOrder_27 37 σ1).bind (fun z => F_X4_parseTell_158 37 z) := by
    unfold F_X4_parseTell
    rw [kindA r.1, hK, Option.bind_some]
    iterate 7 rw [if_neg (by decide)]
    rw [if_pos (show nI 135 = (135 : Int32) from rfl)]
    unfold F_X4_parseOrder
    rw [show F_X4_take 37 (135 : Int32) σ = F_X4_take 37 (nI 135) σ from rfl, cC_t g1]
  have EM : F_X12_tell 0 τ = (if τ1.1 0 13 ≤ 0 then cR (τ1.2.2 0 5) (okr kM NM 101) fun z42 => cG (inb (τ1.1 0 11) (kM z42).2) <| F_X12_tell_204 0 ((τ1.1 z42 (τ1.1 0 11).toNatClampNeg) - (27 : Int32)) τ1 else F_X12_tell_204 0 (-1 : Int32) τ1) := by
    unfold F_X12_tell cL
    dsimp only
    rw [rM_5 hQ, e11, cG_t gk, ck, k3, hK]
    iterate 6 rw [if_neg (by decide)]
    rw [if_pos (show nI (mkK 135) = 26 from rfl), p1, Option.bind_some]
  rw [EC, EM]
  have no : ∀ (x : Int32) (f : Nat) (σ2 τ2 : hSt), (x < 0 ∨ ¬ x ≤ (3 : Int32)) → F_X12_fail 0 (1 : Int32) τ1 = some τ2 → DdM n b f (k + 1) τ2 ∨ DdM n b f k τ2 → F_X12_tell_204 0 x τ1 = some τ2 := fun x f σ2 τ2 hx hf hd => by
    have e219 : ∀ y, F_X12_tell_219 0 y τ2 = some τ2 := fun y => by
      unfold F_X12_tell_219
      rcases hd with hd | hd
      · rw [if_neg (DdM_pos hd).2.1]
      · rw [if_neg (DdM_pos hd).2.1]
    have e214 : F_X12_tell_214 0 x τ1 = some τ2 := by
      unfold F_X12_tell_214
      rw [hf, Option.bind_some, e219]
    unfold F_X12_tell_204
    by_cases q : x < 0
    · rw [if_pos q, e214]
    · rw [if_neg q, if_neg (hx.resolve_left q), e214]
  rcases z with r1 | ⟨d1, d2⟩
  · obtain ⟨hQ1, e11', gk', ck', k3'⟩ := tellM_head r1.2.1
    rw [kindA r1.1, Option.bind_some, r1.2.1.2.2.2.2.2, if_pos (show (0 : Int32) ≤ 0 by decide), rM_5 hQ1, e11', cG_t gk', ck', k3']
    by_cases q : 136 ≤ KK n b (k + 1) ∧ KK n b (k + 1) ≤ 139
    · obtain ⟨d, hd, ed⟩ : ∃ d, d < 4 ∧ KK n b (k + 1) = 136 + d := ⟨KK n b (k + 1) - 136, by omega, by omega⟩
      obtain ⟨a1, a2, a3, a4, a5, a6, a7⟩ := ord_in d hd
      have r2 : RdR n b t (k + 1) w wp σ1 (uI τ1 18 s (nI d)) := RdR_e r1 eqC_rfl ⟨rfl, rfl, fun j _ _ _ => uI_ne _ _ (by omega), fun c _ _ => uI_row _ _ (by omega)⟩
      obtain ⟨v2, σ2, τ2, y1, y2, y3, y4, y5⟩ := both_go hb r2 ed (by omega) (by omega)
      have B3 : Bth n b t (fun k' w' wp' => k' = k + 2 ∧ w' = w ∧ wp' = wp) (uI σ2 t 8 (nI d)) τ2 := by
        have : Bth n b t (fun k' w' wp' => k' = k + 2 ∧ w' = w ∧ wp' = wp) σ2 τ2 := by
          rcases y5 with y5 | ⟨u1, u2⟩
          · exact Or.inl ⟨k + 2, w, wp, ⟨rfl, rfl, rfl⟩, y5⟩
          · exact Or.inr ⟨2, k + 1, u1, u2⟩
        exact Bth_e this ⟨rfl, uI_row _ _ (by omega), uI_row _ _ (by omega), uI_row _ _ (by omega), rfl⟩ eqM_rfl
      obtain ⟨P2, Q2, -, R2⟩ := Bth_C B3
      obtain ⟨v4, σ4, τ4, z1, z2, z3, z4, z5⟩ := takeB (x := 59) hb B3 (by decide) (by decide) (by decide)
      rw [ed, a1, a2, if_neg a4, if_pos a5, cC_t y1, r37 (show σ2.2.2 37 3 = some t from Q2) ht, a3]
      unfold cL
      dsimp only
      rw [Option.bind_some, tellC_take z1]
      unfold F_X12_tell_204 F_X12_tell_219 cL
      dsimp only
      rw [if_neg a6, if_pos a7, r1.2.1.2.2.2.2.2, if_pos (show (0 : Int32) ≤ 0 by decide), rM_31 hQ1, q1.2.1 19 (by decide) (by decide) (by decide), m19, cG_t g18, cl_nI (by omega), y2, Option.bind_some, show F_X12_must 0 (4 : Int32) τ2 = F_X12_must 0 (nI (mkK 59)) τ2 from rfl, z2, Option.bind_some, tellM_282]
      refine ⟨σ4, τ4, rfl, rfl, frPC_trans (frPC_T f1) (frPC_trans (frPC_T y3) (frPC_trans (frPC_I (c := t) (by omega)) (frPC_K z3))), frPM_trans (frPM_N q1) (frPM_trans (frPM_I (sR_1 (c := 18) (by decide) (by decide) rfl) (by decide)) (frPM_trans (frPM_N y4) (frPM_K z4))), ?_⟩
      rcases z5 with ⟨k', w', wp', ⟨k2, u1, ⟨u2, u3, u4⟩, u5⟩, r'⟩ | d
      · left
        have rowC : ∀ c, c ≠ 37 → c ≠ t → σ4.1 c = σ.1 c := fun c a b => by rw [z3.2 c a, uI_row _ _ b, y3.2.2 c a, f1.2.2 c a]
        have rtj : ∀ j, j ≠ 8 → σ4.1 t j = σ.1 t j := fun j a => by rw [z3.2 t (by omega), uI_ne _ _ (fun q => a q.2), y3.2.2 t (by omega), f1.2.2 t (by omega)]
        have rowM : ∀ c, c ≠ 0 → c ≠ 18 → τ4.1 c = τ.1 c := fun c a b => by rw [z4.2.2 c a, y4.2.2 c a, uI_row _ _ b, q1.2.2 c a]
        have r0j : ∀ j, j ≠ 11 → j ≠ 13 → j ≠ 14 → j ≠ 15 → j ≠ 16 → τ4.1 0 j = τ.1 0 j := fun j a1 a2 a3 a4 a5 => by rw [z4.2.1 j a1 a2 a3 a4 a5, y4.2.1 j a1 a2 a3, uI_row _ _ (by decide), q1.2.1 j a1 a2 a3]
        refine ⟨k', by omega, w', wp', xD1 D 3 d, F, r', ⟨hs, ⟨hH, hM, hS⟩, ⟨?_, ?_, ?_⟩, ⟨?_, ?_, ?_, ?_, ?_, ?_⟩, c, e, ?_, by omega, ?_, by omega⟩, fun q => ?_⟩
        · rw [rtj 0 (by decide)]; exact e0
        · rw [rtj 3 (by decide)]; exact e3
        · rw [rtj 9 (by decide)]; exact e9
        · rw [r0j 19 (by decide) (by decide) (by decide) (by decide) (by decide)]; exact m19
        · rw [rowM 11 (by decide) (by decide)]; exact m11
        · rw [rowM 14 (by decide) (by decide)]; exact m14
        · rw [rowM 19 (by decide) (by decide)]; exact m19s
        · rw [r0j 20 (by decide) (by decide) (by decide) (by decide) (by decide)]; exact m20
        · rw [r0j 12 (by decide) (by decide) (by decide) (by decide) (by decide)]; exact m12
        · rw [r0j 44 (by decide) (by decide) (by decide) (by decide) (by decide)]; exact m44
        · rw [r0j 38 (by decide) (by decide) (by decide) (by decide) (by decide)]; exact m38
        · obtain ⟨⟨x1, x2, x3, x4, x5, x6, x7, x8, x9⟩, ⟨c1, c2, c3, c4, c5, c6, c7⟩, ⟨y1, y2, y3, y4, y5, y6, y7⟩, nm⟩ := hT (by omega)
          have W2 : ∀ c, t < c → c < t + 14 → σ4.1 c = σ.1 c := fun c a b => rowC c (by omega) (by omega)
          refine ⟨⟨x1, x2, x3, hd, x5, x6, x7, x8, x9⟩, ⟨?_, ?_, ?_, ?_, ?_, ?_, ?_⟩, ⟨?_, ?_, ?_, ?_, ?_, ?_, ?_⟩, ?_⟩
          · rw [z3.2 t (by omega), uI_I, if_pos ⟨rfl, rfl⟩]; rfl
          · exact CX_e c2 rfl rfl rfl (W2 _ (by omega) (by omega)) (W2 _ (by omega) (by omega))
          · exact CH_e c3 rfl rfl (W2 _ (by omega) (by omega))
          · exact CL_e c4 rfl rfl (W2 _ (by omega) (by omega)) (W2 _ (by omega) (by omega))
          · exact CW_e c5 rfl rfl (W2 _ (by omega) (by omega)) (W2 _ (by omega) (by omega))
          · exact CF_e c6 rfl rfl (W2 _ (by omega) (by omega)) (W2 _ (by omega) (by omega))
          · exact CSl_e c7 rfl rfl rfl rfl (W2 _ (by omega) (by omega)) (W2 _ (by omega) (by omega)) (W2 _ (by omega) (by omega))
          · rw [z4.2.2 18 (by decide), (‹frN (uI τ1 18 s (nI d)) τ2› : frN _ _).2.2 18 (by decide), uI_I, if_pos ⟨rfl, rfl⟩]; rfl
          · exact MX_e y2 rfl rfl rfl (rowM 12 (by decide) (by decide)) (rowM 13 (by decide) (by decide))
          · exact MH_e y3 rfl rfl (rowM 15 (by decide) (by decide))
          · exact ML_e y4 rfl rfl (fun c a _ => rowM c (by omega) (by omega))
          · exact MW_e y5 rfl rfl (rowM 16 (by decide) (by decide)) (rowM 17 (by decide) (by decide))
          · exact MF_e y6 rfl rfl (rowM 16 (by decide) (by decide)) (rowM 17 (by decide) (by decide))
          · exact MS_e y7 rfl rfl rfl rfl (rowM 20 (by decide) (by decide)) (rowM 21 (by decide) (by decide)) (rowM 22 (by decide) (by decide))
          · exact NmR_fr nm (by rw [z3.1, uI_J, (‹frT σ1 σ2› : frT _ _).1, f1.1]) (by rw [z4.1, (‹frN (uI τ1 18 s (nI d)) τ2› : frN _ _).1, uI_J, q1.1]) (rowM 9 (by decide) (by decide)) (rowM 10 (by decide) (by decide))
      · exact Or.inr d
    · obtain ⟨a1, a2⟩ := ord_out _ (KK_v (n := n) (b := b) (k + 1)) q
      obtain ⟨σ2, y1, y2, y3⟩ := failA (f := 1) r1.1 (Or.inl rfl)
      obtain ⟨τ2, z1, z2, z3⟩ := mfailA (f := 1) r1.2.1 (Or.inl rfl)
      have e27 : F_X4_parseOrder_27 37 σ1 = some σ2 := by
        unfold F_X4_parseOrder_27
        rw [show F_X4_fail 37 (1 : Int32) σ1 = F_X4_fail 37 (nI 1) σ1 from rfl, y1, Option.bind_some]
      have eC : (if nI (KK n b (k + 1)) < (136 : Int32) then F_X4_parseOrder_27 37 σ1 else if nI (KK n b (k + 1)) ≤ (139 : Int32) then cC (F_X4_take 37 (nI (KK n b (k + 1))) σ1) fun v9 σ10 => cR (σ10.2.2 37 3) (okr kC NC 7) fun z11 => cL (uI σ10 z11 8 (nI (KK n b (k + 1)) - (136 : Int32))) fun σ12 => some σ12 else F_X4_parseOrder_27 37 σ1) = some σ2 := by
        by_cases u : nI (KK n b (k + 1)) < (136 : Int32)
        · rw [if_pos u, e27]
        · rw [if_neg u, if_neg (a1.resolve_left u), e27]
      rw [eC, Option.bind_some, tellC_dead y2, no _ 1 σ2 τ2 a2 z1 (Or.inl z2)]
      exact ⟨σ2, τ2, rfl, rfl, frPC_trans (frPC_T f1) (frPC_T y3), frPM_trans (frPM_N q1) (frPM_N z3), Or.inr ⟨1, k + 1, y2, z2⟩⟩
  · have e27 : F_X4_parseOrder_27 37 σ1 = some σ1 := by
      unfold F_X4_parseOrder_27
      rw [failD d1, Option.bind_some]
    rw [kindD d1, Option.bind_some, if_pos (show (1 : Int32) < 136 by decide), e27, Option.bind_some, tellC_dead d1, if_neg (DdM_pos d2).2.1, no (-1) 2 σ1 τ1 (Or.inl (by decide)) (mfailD d2) (Or.inr d2)]
    exact ⟨σ1, τ1, rfl, rfl, frPC_T f1, frPM_N q1, Or.inr ⟨2, k, d1, d2⟩⟩
/-- no tell begins so -/
theorem tellNo_eq {n t s k : Nat} {b : Nat → Nat} {σ τ : hSt} (h : PR n b t s k σ τ) (hC : F_X4_parseTell 37 σ = F_X4_parseTell_153 37 σ) (hM : F_X12_tell 0 τ = F_X12_tell_277 0 τ) : OutT n b t s k σ τ (F_X4_parseTell 37 σ) (F_X12_tell 0 τ) := by
  obtain ⟨w, wp, D, F, r, -, -⟩ := h
  obtain ⟨σ2, y1, y2, y3⟩ := failA (f := 1) r.1 (Or.inl rfl)
  obtain ⟨τ2, z1, z2, z3⟩ := mfailA (f := 1) r.2.1 (Or.inl rfl)
  rw [hC, hM]
  unfold F_X4_parseTell_153 F_X12_tell_277
  rw [show F_X4_fail 37 (1 : Int32) σ = F_X4_fail 37 (nI 1) σ from rfl, y1, Option.bind_some, tellC_dead y2, show F_X12_fail 0 (1 : Int32) τ = F_X12_fail 0 (nI 1) τ from rfl, z1, Option.bind_some, tellM_282]
  exact ⟨σ2, τ2, rfl, rfl, frPC_T y3, frPM_N z3, Or.inr ⟨1, k, y2, z2⟩⟩
theorem tellOther_eq {n t s k : Nat} {b : Nat → Nat} {σ τ : hSt} (h : PR n b t s k σ τ) (hK : KK n b k ≠ 128 ∧ KK n b k ≠ 129 ∧ KK n b k ≠ 131 ∧ KK n b k ≠ 135 ∧ KK n b k ≠ 140 ∧ KK n b k ≠ 142 ∧ KK n b k ≠ 143) : OutT n b t s k σ τ (F_X4_parseTell 37 σ) (F_X12_tell 0 τ) := by
  have h' := h
  obtain ⟨w, wp, D, F, r, -, -⟩ := h'
  obtain ⟨hQ, e11, gk, ck, k3⟩ := tellM_head r.2.1
  have dC : ∀ x, x ∈ vL → (x ≠ 128 ∧ x ≠ 129 ∧ x ≠ 131 ∧ x ≠ 135 ∧ x ≠ 140 ∧ x ≠ 142 ∧ x ≠ 143) → nI x ≠ 128 ∧ nI x ≠ 129 ∧ nI x ≠ 131 ∧ nI x ≠ 135 ∧ nI x ≠ 140 ∧ nI x ≠ 142 ∧ nI x ≠ 143 := by decide +kernel
  have dM : ∀ x, x ∈ vL → (x ≠ 128 ∧ x ≠ 129 ∧ x ≠ 131 ∧ x ≠ 135 ∧ x ≠ 140 ∧ x ≠ 142 ∧ x ≠ 143) → nI (mkK x) ≠ 20 ∧ nI (mkK x) ≠ 21 ∧ nI (mkK x) ≠ 23 ∧ nI (mkK x) ≠ 24 ∧ nI (mkK x) ≠ 25 ∧ nI (mkK x) ≠ 26 ∧ nI (mkK x) ≠ 31 := by decide +kernel
  obtain ⟨a1, a2, a3, a4, a5, a6, a7⟩ := dC _ (KK_v (n := n) (b := b) k) hK
  obtain ⟨b1, b2, b3, b4, b5, b6, b7⟩ := dM _ (KK_v (n := n) (b := b) k) hK
  refine tellNo_eq h ?_ ?_
  · unfold F_X4_parseTell
    rw [kindA r.1, Option.bind_some, if_neg a1, if_neg a2, if_neg a3, if_neg a4, if_neg a5, if_neg a6, if_neg a7]
    simp only [ite_self]
  · unfold F_X12_tell cL
    dsimp only
    rw [rM_5 hQ, e11, cG_t gk, ck, k3, if_neg b1, if_neg b2, if_neg b3, if_neg b4, if_neg b5, if_neg b6, if_neg b7]
    simp only [ite_self]
