/-! ===== PURE 79: the law's end and its loop, in both ===== -/
theorem end154_dead {n t f j L : Nat} {b : Nat → Nat} {σ : hSt} (hb : ∀ i, b i < 256) (h : DdC n b t f j σ) (hL : L ≤ 401) (e : σ.1 (t + 4) 2 = nI L) : ∃ σ', F_X4_parseLaw_154 37 σ = some σ' ∧ DdC n b t f j σ' ∧ frX t σ σ' := by
  have ht := h.2.2.1
  obtain ⟨t1, t2, t3⟩ := t_ok ht
  obtain ⟨v, σ', g1, g2, g3, -⟩ := addA (x := -59) h.1 ht e hL
  refine ⟨σ', ?_, DdC_fr h g2.1 g3, g2⟩
  unfold F_X4_parseLaw_154
  rw [show FS 8 37 (0 : Int32) σ = some σ from (FS_ok (n := n) (t := t) hb 8 0 rfl (by decide)).2 f j σ h, Option.bind_some, r37 h.2.1 ht, rC_7_5 h.1 t1, cC_t g1]
theorem round53_dead {n t f j L i : Nat} {b : Nat → Nat} {σ : hSt} (hb : ∀ i, b i < 256) (h : DdC n b t f j σ) (hL : L ≤ 401) (e : σ.1 (t + 4) 2 = nI L) : ∃ σ' L', F_X4_parseLaw_53 37 (nI i) σ = some (.inl (nI (i + 1), σ')) ∧ DdC n b t f j σ' ∧ frX t σ σ' ∧ L' ≤ 401 ∧ σ'.1 (t + 4) 2 = nI L' := by
  have ht := h.2.2.1
  obtain ⟨t1, t2, t3⟩ := t_ok ht
  have fs : ∀ z, DdC n b t f j z → FS 8 37 (0 : Int32) z = some z := fun z hz => (FS_ok (n := n) (t := t) hb 8 0 rfl (by decide)).2 f j z hz
  have lawF : ∀ {α : Type} (z : hSt) (hz : DdC n b t f j z) (f : Nat → Option α), (cR (z.2.2 37 3) (okr kC NC 7) fun z18 => cR (z.2.2 z18 5) (okr kC NC 0) fun z19 => f z19) = f (t + 4) := fun z hz f => by
    rw [r37 hz.2.1 ht, rC_7_5 hz.1 t1]
  obtain ⟨v1, σ1, g1, g2, g3, ⟨L1, g4, g5⟩, -⟩ := addA (x := -60) h.1 ht e hL
  have d1 := DdC_fr h g2.1 g3
  obtain ⟨v2, σ2, p1, p2, p3, ⟨L2, p4, p5⟩, -⟩ := addA (x := 0) d1.1 ht g5 g4
  have d2 := DdC_fr d1 p2.1 p3
  obtain ⟨v3, σ3, q1, q2, q3, ⟨L3, q4, q5⟩, -⟩ := addA (x := -59) d2.1 ht p5 p4
  have d3 := DdC_fr d2 q2.1 q3
  obtain ⟨σ4, a1, a2, -⟩ := aimC (v := v2) d3.1 ht
  have fx : frX t σ3 σ4 := by
    rcases a2 with e | ⟨h, -, e⟩
    · rw [e]; exact frX_rfl
    · rw [e]; exact frX_aim ht
  have ex : eqC σ3 σ4 := by
    rcases a2 with e | ⟨h, -, e⟩
    · rw [e]; exact eqC_rfl
    · rw [e]; exact ⟨rfl, uI_row _ _ (by omega), uI_row _ _ (by omega), uI_row _ _ (by omega), rfl⟩
  refine ⟨σ4, L3, ?_, DdC_e d3 ex, frX_trans g2 (frX_trans p2 (frX_trans q2 fx)), q4, ?_⟩
  · unfold F_X4_parseLaw_53 cL
    rw [cC_t (takeD h), fs σ h, Option.bind_some, cC_t (takeD h), fs σ h, Option.bind_some, lawF σ h, cC_t g1, lawF σ1 d1, cC_t p1, cC_t (takeD d2), fs σ2 d2, Option.bind_some, cC_t (takeD d2), lawF σ2 d2, cC_t q1, lawF σ3 d3, a1, Option.bind_some, nI_1]
  · rcases a2 with e | ⟨h, -, e⟩
    · rw [e]; exact q5
    · rw [e, uI_row _ _ (by omega)]; exact q5
theorem end124_dead {n f j s e : Nat} {b : Nat → Nat} {x : Int32} {τ : hSt} (hs : s < 2) (h : DdM n b f j τ) (he : e < 130) (e38 : τ.1 0 38 = nI (130 * s + e)) : ∃ τ', F_X12_tellLaw_124 0 x τ = some τ' ∧ DdM n b f j τ' ∧ frLw s τ τ' := by
  have hB : 130 * s + e < 260 := by omega
  have wdr : ∀ c, 25 ≤ c → c ≤ 29 → wdM c * s ≤ 130 * s + e ∧ 130 * s + e < wdM c * s + wdM c := fun c p q => by rw [wd_130 c (by omega) p]; omega
  have dM : ∀ c j' v z, DdM n b f j z → (25 ≤ c ∧ c ≤ 29) ∨ (c = 0 ∧ j' = 38) → DdM n b f j (uI z c j' v) := fun c j' v z hz hc => DdM_e hz ⟨rfl, rfl, fun j _ _ _ => uI_ne _ _ (by omega), fun c' _ _ => uI_row _ _ (by omega)⟩
  have d1 : DdM n b f j (uI τ 25 (130 * s + e) 0) := dM _ _ _ _ h (Or.inl ⟨by decide, by decide⟩)
  have a1 : (uI τ 25 (130 * s + e) 0).1 0 38 = nI (130 * s + e) := by rw [uI_row _ _ (by decide)]; exact e38
  obtain ⟨τ1, h1⟩ : ∃ x, x = uI τ 25 (130 * s + e) 0 := ⟨_, rfl⟩
  rw [← h1] at d1 a1
  have d2 : DdM n b f j (uI τ1 28 (130 * s + e) (τ1.1 0 44)) := dM _ _ _ _ d1 (Or.inl ⟨by decide, by decide⟩)
  have a2 : (uI τ1 28 (130 * s + e) (τ1.1 0 44)).1 0 38 = nI (130 * s + e) := by rw [uI_row _ _ (by decide)]; exact a1
  obtain ⟨τ2, h2⟩ : ∃ x, x = uI τ1 28 (130 * s + e) (τ1.1 0 44) := ⟨_, rfl⟩
  rw [← h2] at d2 a2
  have d3 : DdM n b f j (uI (uI τ2 29 (130 * s + e) (τ2.1 0 44)) 0 38 (nI (130 * s + e + 1))) := dM _ _ _ _ (dM _ _ _ _ d2 (Or.inl ⟨by decide, by decide⟩)) (Or.inr ⟨rfl, rfl⟩)
  refine ⟨_, ?_, d3, ?_⟩
  · unfold F_X12_tellLaw_124 cL
    dsimp only
    rw [rM_39 h.1, e38, cG_t (inb_nI (by rw [kM_25]; omega) (by decide)), cl_nI (by omega), show (vp_nar .boolean (0 : Int32)) = 0 from rfl, ← h1, termB d1.1 hB a1, ← h2, if_neg (DdM_pos d1).1, Option.bind_some, term24 d2.1 hB a2, Option.bind_some, mustD d3, Option.bind_some, if_neg (DdM_pos d3).2.1]
  · have f1 : frLw s τ τ1 := by rw [h1]; exact frLw_I (c := 25) ⟨by decide, by decide⟩ (wdr 25 (by decide) (by decide))
    have f2 : frLw s τ1 τ2 := by rw [h2]; exact frLw_I (c := 28) ⟨by decide, by decide⟩ (wdr 28 (by decide) (by decide))
    exact frLw_trans f1 (frLw_trans f2 (frLw_trans (frLw_I (c := 29) ⟨by decide, by decide⟩ (wdr 29 (by decide) (by decide))) frLw_38))
/-- what a whole law leaves -/
def OutL (n : Nat) (b : Nat → Nat) (t s B0 k w wp : Nat) (σ' τ' : hSt) : Prop := ∃ k' e' c' bs z, k < k' ∧ RdR n b t k' w wp σ' τ' ∧ (∃ L, L ≤ 401 ∧ σ'.1 (t + 4) 2 = nI L ∧ cLaw (σ'.1 (t + 5)) L 0 bs z) ∧ τ'.1 0 12 = 0 ∧ τ'.1 0 44 = nI (420 * s + c') ∧ c' ≤ k' ∧ τ'.1 0 38 = nI (130 * s + e') ∧ 4 * e' ≤ k' ∧ τ'.1 23 s = nI B0 ∧ τ'.1 24 s = nI (130 * s + e') ∧ mLawS s τ'.1 B0 (130 * s + e') bs z
theorem lawEnd {n t s B0 k w wp L c e : Nat} {b : Nat → Nat} {bs : List Brn} {σ τ : hSt} (hb : ∀ i, b i < 256) (hs : s < 2) (h : InvL n b t s B0 k w wp L c e bs σ τ) (m19 : τ.1 0 19 = nI s) :
    ∃ σ' τ', (F_X4_parseLaw_154 37 σ).bind (fun z => F_X4_parseTell_158 37 z) = some σ' ∧ F_X12_tellLaw_124 0 (nI B0) τ = some τ' ∧ frX t σ σ' ∧ frLw s τ τ' ∧ (OutL n b t s B0 k w wp σ' τ' ∨ DdR n b t σ' τ') := by
  obtain ⟨r, hL, eL, hcp, e12, e44, hc, e38, he, hB0, hmp⟩ := h
  have hk := r.1.2.2.2.2.2.1
  have ht := r.1.2.2.1
  obtain ⟨t1, t2, t3⟩ := t_ok ht
  have hB : 130 * s + e < 260 := by omega
  have wdr : ∀ c, 25 ≤ c → c ≤ 29 → wdM c * s ≤ 130 * s + e ∧ 130 * s + e < wdM c * s + wdM c := fun c p q => by rw [wd_130 c (by omega) p]; omega
  have A0 : Blw n b t s (fun k' w' wp' L' c' => k' = k ∧ w' = w ∧ wp' = wp ∧ L' = L ∧ c' = c) σ τ := Or.inl ⟨k, w, wp, L, c, ⟨rfl, rfl, rfl, rfl, rfl⟩, r, by omega, eL, e12, e44, hc⟩
  have A1 := Blw_M (c := 25) (j := 130 * s + e) (v := 0) A0 (Or.inl ⟨by decide, by decide⟩)
  have a1 : (uI τ 25 (130 * s + e) 0).1 0 38 = nI (130 * s + e) := by rw [uI_row _ _ (by decide)]; exact e38
  obtain ⟨τ1, h1⟩ : ∃ x, x = uI τ 25 (130 * s + e) 0 := ⟨_, rfl⟩
  rw [← h1] at A1 a1
  have A2 := Blw_M (c := 28) (j := 130 * s + e) (v := τ1.1 0 44) (Blw_44 A1) (Or.inl ⟨by decide, by decide⟩)
  have a2 : (uI τ1 28 (130 * s + e) (τ1.1 0 44)).1 0 38 = nI (130 * s + e) := by rw [uI_row _ _ (by decide)]; exact a1
  obtain ⟨τ2, h2⟩ : ∃ x, x = uI τ1 28 (130 * s + e) (τ1.1 0 44) := ⟨_, rfl⟩
  rw [← h2] at A2 a2
  have h13 : τ2.1 0 13 = τ1.1 0 13 := by rw [h2, uI_row _ _ (by decide)]
  obtain ⟨σ3, τ3, c3, m3, fc3, fm3, A3⟩ := lawSum (e := if τ1.1 0 13 = 0 then F_X12_expression 0 τ2 else some τ2) hb hs A2 (fun q => if_pos (h13 ▸ q)) (fun q => Or.inl (if_neg (h13 ▸ q)))
  have a3 : τ3.1 0 38 = nI (130 * s + e) := by rw [fm3.2.1 38 (by decide) (by decide) (by decide) (by decide) (by decide) (by decide)]; exact a2
  have A4 := Blw_M (c := 0) (j := 38) (v := nI (130 * s + e + 1)) (Blw_M (c := 29) (j := 130 * s + e) (v := τ3.1 0 44) (Blw_44 A3) (Or.inl ⟨by decide, by decide⟩)) (Or.inr ⟨rfl, rfl⟩)
  obtain ⟨τ4, h4⟩ : ∃ x, x = uI (uI τ3 29 (130 * s + e) (τ3.1 0 44)) 0 38 (nI (130 * s + e + 1)) := ⟨_, rfl⟩
  rw [← h4] at A4
  obtain ⟨v5, σ5, c5, fc5, A5⟩ := lawAdd (x := -59) A4 (fun k' w' wp' L' c' hi => by
    obtain ⟨⟨k3, L3, c3', os, ⟨⟨u1, u2, u3, u4, u5⟩, -⟩, u6, u7, u8, u9, -⟩, -⟩ := hi
    omega)
  obtain ⟨v6, σ6, τ6, c6, m6, fc6, fm6, A6⟩ := lawTake (x := 59) hb A5 (by decide) (by decide) (by decide)
  obtain ⟨P3, Q3, -, R3⟩ := Blw_C A3
  obtain ⟨P1, Q1, -, R1⟩ := Blw_C A1
  obtain ⟨P4, Q4, -, R4⟩ := Blw_C A4
  obtain ⟨P6, Q6, -, R6⟩ := Blw_C A6
  have g36 : inb (nI s) (kM 23).2 = true := inb_nI (by rw [kM_23]; exact hs) (by decide)
  have g37 : inb (nI s) (kM 24).2 = true := inb_nI (by rw [kM_24]; exact hs) (by decide)
  have EC : (F_X4_parseLaw_154 37 σ).bind (fun z => F_X4_parseTell_158 37 z) = some σ6 := by
    unfold F_X4_parseLaw_154
    rw [c3, Option.bind_some, r37 Q3 ht, rC_7_5 P3 t1, cC_t c5, Option.bind_some, tellC_take c6]
  have FC : frX t σ σ6 := frX_trans fc3 (frX_trans fc5 (frX_T ht fc6))
  have f1 : frLw s τ τ1 := by rw [h1]; exact frLw_I (c := 25) ⟨by decide, by decide⟩ (wdr 25 (by decide) (by decide))
  have f2 : frLw s τ1 τ2 := by rw [h2]; exact frLw_I (c := 28) ⟨by decide, by decide⟩ (wdr 28 (by decide) (by decide))
  have f4 : frLw s τ3 τ4 := by rw [h4]; exact frLw_trans (frLw_I (c := 29) ⟨by decide, by decide⟩ (wdr 29 (by decide) (by decide))) frLw_38
  have FM : frLw s τ τ6 := frLw_trans f1 (frLw_trans f2 (frLw_trans (frLw_V fm3) (frLw_trans f4 (frLw_N fm6))))
  have w23 : ∀ c, c = 23 ∨ c = 24 → wdM c * s ≤ s ∧ s < wdM c * s + wdM c := fun c hc => by
    rcases hc with e | e <;> subst e
    · have : wdM 23 = 1 := by decide
      rw [this]; omega
    · have : wdM 24 = 1 := by decide
      rw [this]; omega
  have EM : F_X12_tellLaw_124 0 (nI B0) τ = if τ6.1 0 13 ≤ 0 then cR (τ6.2.2 0 36) (okr kM NM 101) (fun z32 => cG (inb (τ6.1 0 19) (kM z32).2) <| cL (uI τ6 z32 (τ6.1 0 19).toNatClampNeg (nI B0)) fun σ34 => cR (σ34.2.2 0 37) (okr kM NM 101) fun z35 => cG (inb (σ34.1 0 19) (kM z35).2) <| cL (uI σ34 z35 (σ34.1 0 19).toNatClampNeg (σ34.1 0 38)) fun σ37 => some σ37) else some τ6 := by
    unfold F_X12_tellLaw_124
    conv => lhs; unfold cL; dsimp only
    rw [rM_39 (show HM τ.2.2 from r.2.1.1), e38, cG_t (inb_nI (by rw [kM_25]; omega) (by decide)), cl_nI (by omega), show (vp_nar .boolean (0 : Int32)) = 0 from rfl, ← h1, termB R1 hB a1, ← h2, m3, Option.bind_some, term24 R3 hB a3, Option.bind_some, ← h4, show F_X12_must 0 (4 : Int32) τ4 = F_X12_must 0 (nI (mkK 59)) τ4 from rfl, m6, Option.bind_some]
    rfl
  rw [EC, EM]
  rcases A6 with ⟨k6, w6, wp6, L6, c6', ⟨k5, y0, L5, y1, ⟨⟨k3, L3, c3', os, ⟨⟨u1, u2, u3, u4, u5⟩, u44⟩, u6, u7, u8, u9, u10, u11, u12, u13, u14, u15, u16⟩, q44⟩, y2, y3, y4⟩, r', k1, k2, k3', k4, k5'⟩ | ⟨⟨f, j, d1, d2⟩, -⟩
  · have hk6 := r'.1.2.2.2.2.2.1
    have hs19 : τ6.1 0 19 = τ.1 0 19 := FM.2.1 19 (by decide) (by decide) (by decide) (by decide) (by decide) (by decide) (by decide)
    have b38 : τ6.1 0 38 = nI (130 * s + e + 1) := by rw [fm6.2.1 38 (by decide) (by decide) (by decide), h4, uI_I, if_pos ⟨rfl, rfl⟩]
    rw [r'.2.1.2.2.2.2.2, if_pos (show (0 : Int32) ≤ 0 by decide), rM_36 R6, hs19, m19, cG_t g36, cl_nI (by omega)]
    unfold cL
    dsimp only
    rw [rM_37 (show HM (uI τ6 23 s (nI B0)).2.2 from R6), uI_row _ _ (show (0 : Nat) ≠ 23 by decide), hs19, m19, cG_t g37, cl_nI (by omega), b38]
    refine ⟨σ6, _, rfl, rfl, FC, frLw_trans FM (frLw_trans (frLw_I (c := 23) ⟨by decide, by decide⟩ (w23 23 (Or.inl rfl))) (frLw_I (c := 24) ⟨by decide, by decide⟩ (w23 24 (Or.inr rfl)))), Or.inl ?_⟩
    subst u1 u2 u3 u4 u5 u8 u9 y0 y1
    have T6 : σ6.1 (t + 5) = σ5.1 (t + 5) := fc6.2.2 _ (by omega)
    have row : ∀ c, c ≠ 0 → c ≠ 23 → c ≠ 24 → (uI (uI τ6 23 s (nI B0)) 24 s (nI (130 * s + e + 1))).1 c = τ6.1 c := fun c _ a b => by rw [uI_row _ _ b, uI_row _ _ a]
    have T1 : ∀ r j, τ1.1 r j = if r = 25 ∧ j = 130 * s + e then 0 else τ.1 r j := fun r j => by rw [h1, uI_I]
    have rows : ∀ r j, 25 ≤ r → r ≤ 29 → τ6.1 r j = if r = 29 ∧ j = 130 * s + e then τ3.1 0 44 else if r = 28 ∧ j = 130 * s + e then τ1.1 0 44 else if r = 25 ∧ j = 130 * s + e then 0 else τ.1 r j := fun r j p q => by
      rw [fm6.2.2 r (by omega), h4, uI_row _ _ (show r ≠ 0 by omega), uI_I, fm3.2.2.1 r (by omega) (by omega) (by omega) (by omega), h2, uI_I, T1 r j]
    have code : ∀ r, r = 30 ∨ r = 31 → τ2.1 r = τ.1 r ∧ τ6.1 r = τ3.1 r := fun r hr => by
      refine ⟨?_, ?_⟩
      · rw [h2, uI_row _ _ (by omega), h1, uI_row _ _ (by omega)]
      · rw [fm6.2.2 r (by omega), h4, uI_row _ _ (by omega), uI_row _ _ (by omega)]
    obtain ⟨x1, x2⟩ := code 30 (Or.inl rfl)
    obtain ⟨x3, x4⟩ := code 31 (Or.inr rfl)
    rw [x1, x3] at u12
    refine ⟨k5 + 1, e + 1, c3' + os.length, bs, os, by omega, RdR_e r' eqC_rfl ⟨rfl, rfl, fun j _ _ _ => by rw [uI_row _ _ (by decide), uI_row _ _ (by decide)], fun c _ _ => row c (by omega) (by omega) (by omega)⟩, ⟨L3 + os.length + 1, by omega, k2, ?_⟩, ?_, ?_, k5', ?_, by omega, ?_, ?_, ?_⟩
    · rw [T6]
      rw [← T6] at y4 y3
      refine cLaw_of bs 0 L3 (cPre_congr bs 0 L3 (fun j hj => ?_) hcp) ⟨?_, ?_, Nat.le_refl _, u14⟩
      · rw [← T6, y4 j (by omega), u10 j hj]
      · exact cOps_congr _ _ (fun j p z => by rw [← T6, y4 j (by omega)]) u11
      · rw [← T6]; exact y3
    · rw [uI_row _ _ (by decide), uI_row _ _ (by decide)]; exact k3'
    · rw [uI_row _ _ (by decide), uI_row _ _ (by decide)]; exact k4
    · rw [uI_row _ _ (by decide), uI_row _ _ (by decide), b38]; rfl
    · rw [uI_row _ _ (by decide), uI_I, if_pos ⟨rfl, rfl⟩]
    · rw [uI_I, if_pos ⟨rfl, rfl⟩]; rfl
    · rw [← Nat.add_assoc]
      have m30 : ∀ j, j < 420 * s + c3' → τ6.1 30 j = τ.1 30 j ∧ τ6.1 31 j = τ.1 31 j := fun j hj => by rw [x2, x4]; exact u12 j hj
      refine mLawS_of (c := c3' + os.length) hs (by omega) (mPre_congr (c := c3') bs B0 (130 * s + e) (fun r j p q _ z => ?_) (fun j _ hj => ?_) (by omega) hmp) hB0 (by omega) ⟨420 * s + c3', by omega, ?_, ?_, ?_, ?_, by omega, u14⟩
      · rw [row r (by omega) (by omega) (by omega), rows r j p q, if_neg (by omega), if_neg (by omega), if_neg (by omega)]
      · rw [row 30 (by decide) (by decide) (by decide), row 31 (by decide) (by decide) (by decide)]; exact m30 j hj
      · rw [row 25 (by decide) (by decide) (by decide), rows 25 _ (by decide) (by decide), if_neg (by omega), if_neg (by omega), if_pos ⟨rfl, rfl⟩]
      · rw [row 28 (by decide) (by decide) (by decide), rows 28 _ (by decide) (by decide), if_neg (by omega), if_pos ⟨rfl, rfl⟩]; exact u44
      · rw [row 29 (by decide) (by decide) (by decide), rows 29 _ (by decide) (by decide), if_pos ⟨rfl, rfl⟩, q44, Nat.add_assoc]
      · rw [row 30 (by decide) (by decide) (by decide), row 31 (by decide) (by decide) (by decide), x2, x4]; exact u13
  · rw [if_neg (DdM_pos d2).2.1]
    exact ⟨σ6, τ6, rfl, rfl, FC, FM, Or.inr ⟨f, j, d1, d2⟩⟩
