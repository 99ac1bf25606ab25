/-! ===== PURE 78: a branch is told, in both ===== -/
theorem if_bind {α β : Type} {p : Prop} [Decidable p] {x : Option α} {f : α → Option β} {y : α} : (if p then x.bind f else f y) = (if p then x else some y).bind f := by
  by_cases h : p
  · rw [if_pos h, if_pos h]
  · rw [if_neg h, if_neg h]; rfl
theorem termB {B : Nat} {τ : hSt} (hQ : HM τ.2.2) (hB : B < 260) (e : τ.1 0 38 = nI B) : F_X12_term 0 τ = (if τ.1 0 13 = 0 then F_X12_expression 0 (uI τ 28 B (τ.1 0 44)) else some (uI τ 28 B (τ.1 0 44))).bind (F_X12_term_24 0) := by
  unfold F_X12_term cL
  dsimp only
  rw [rM_42 hQ, e, cG_t (inb_nI (by rw [kM_28]; omega) (by decide)), cl_nI (by omega), uI_row _ _ (show (0 : Nat) ≠ 28 by decide)]
  exact if_bind
theorem term24 {B : Nat} {τ : hSt} (hQ : HM τ.2.2) (hB : B < 260) (e : τ.1 0 38 = nI B) : F_X12_term_24 0 τ = some (uI (uI τ 29 B (τ.1 0 44)) 0 38 (nI (B + 1))) := by
  unfold F_X12_term_24 cL
  dsimp only
  rw [rM_43 hQ, e, cG_t (inb_nI (by rw [kM_29]; omega) (by decide)), cl_nI (by omega), uI_row _ _ (show (0 : Nat) ≠ 29 by decide), e, nI_1]
theorem Blw_44 {n t s : Nat} {b : Nat → Nat} {I : Nat → Nat → Nat → Nat → Nat → Prop} {σ τ : hSt} (h : Blw n b t s I σ τ) : Blw n b t s (fun k w wp L c => I k w wp L c ∧ τ.1 0 44 = nI (420 * s + c)) σ τ := by
  rcases h with ⟨k, w, wp, L, c', i, r, h1, h2, h3, h4, h5⟩ | d
  · exact Or.inl ⟨k, w, wp, L, c', ⟨i, h4⟩, r, h1, h2, h3, h4, h5⟩
  · exact Or.inr d
theorem Blw_13 {n t s : Nat} {b : Nat → Nat} {I : Nat → Nat → Nat → Nat → Nat → Prop} {σ τ : hSt} {x : Option hSt} {y z : hSt} (h : Blw n b t s I σ τ) (hx : τ.1 0 13 = 0 → x = F_X12_expression 0 τ) (hy : ¬ τ.1 0 13 = 0 → x = some τ ∨ x = some (uI τ 0 48 0)) : (τ.1 0 13 = 0 → x = F_X12_expression 0 τ) ∧ (¬ τ.1 0 13 = 0 → x = some τ ∨ x = some (uI τ 0 48 0)) := ⟨hx, hy⟩
theorem exprU {n t s : Nat} {b : Nat → Nat} {I : Nat → Nat → Nat → Nat → Nat → Prop} {σ τ : hSt} (h : Blw n b t s I σ τ) : ¬ τ.1 0 13 = 0 → F_X12_expression 0 τ = some τ ∨ F_X12_expression 0 τ = some (uI τ 0 48 0) := fun q => by
  rcases h with ⟨k, w, wp, L, c', i, r, -⟩ | ⟨⟨f, j, d1, d2⟩, -⟩
  · exact absurd r.2.1.2.2.2.2.2 q
  · exact Or.inr (exprD d2)
/-- the law so far -/
def InvL (n : Nat) (b : Nat → Nat) (t s B0 k w wp L c e : Nat) (bs : List Brn) (σ τ : hSt) : Prop := RdR n b t k w wp σ τ ∧ L + 2 ≤ k ∧ σ.1 (t + 4) 2 = nI L ∧ cPre (σ.1 (t + 5)) 0 bs L ∧ τ.1 0 12 = 0 ∧ τ.1 0 44 = nI (420 * s + c) ∧ c ≤ k ∧ τ.1 0 38 = nI (130 * s + e) ∧ 4 * e + 2 ≤ k ∧ 130 * s ≤ B0 ∧ mPre s τ.1 c B0 bs (130 * s + e)
theorem lawRound {n t s B0 k w wp L c e i : Nat} {b : Nat → Nat} {bs : List Brn} {σ τ : hSt} (hb : ∀ i, b i < 256) (hs : s < 2) (h : InvL n b t s B0 k w wp L c e bs σ τ) (hK : KK n b k = 132) :
    ∃ σ' τ', F_X4_parseLaw_53 37 (nI i) σ = some (.inl (nI (i + 1), σ')) ∧ F_X12_tellLaw_33 0 (nI B0) (nI i) τ = some (.inl (nI (i + 1), τ')) ∧ frX t σ σ' ∧ frLw s τ τ' ∧ τ'.1 0 38 = nI (130 * s + e + 1) ∧
      ((∃ k' L' c' bs', k < k' ∧ InvL n b t s B0 k' w wp L' c' (e + 1) bs' σ' τ') ∨ (DdR n b t σ' τ' ∧ ∃ L, L ≤ 401 ∧ σ'.1 (t + 4) 2 = nI L)) := by
  obtain ⟨r, hL, eL, hcp, e12, e44, hc, e38, he, hB0, hmp⟩ := h
  have hk := r.1.2.2.2.2.2.1
  have ht := r.1.2.2.1
  obtain ⟨t1, t2, t3⟩ := t_ok ht
  have hB : 130 * s + e < 260 := by omega
  have g25 : inb (nI (130 * s + e)) (kM 25).2 = true := inb_nI (by rw [kM_25]; omega) (by decide)
  have g26 : inb (nI (130 * s + e)) (kM 26).2 = true := inb_nI (by rw [kM_26]; omega) (by decide)
  have g27 : inb (nI (130 * s + e)) (kM 27).2 = true := inb_nI (by rw [kM_27]; omega) (by decide)
  have wdr : ∀ c, 25 ≤ c → c ≤ 29 → wdM c * s ≤ 130 * s + e ∧ 130 * s + e < wdM c * s + wdM c := fun c p q => by rw [wd_130 c (by omega) p]; omega
  have lawF : ∀ {α : Type} (z : hSt) (hz : HC z.2.2) (hz2 : z.2.2 37 3 = some t) (f : Nat → Option α), (cR (z.2.2 37 3) (okr kC NC 7) fun z18 => cR (z.2.2 z18 5) (okr kC NC 0) fun z19 => f z19) = f (t + 4) := fun z hz hz2 f => by
    rw [r37 hz2 ht, rC_7_5 hz t1]
  -- if
  obtain ⟨v1, σ1, τ1, c1, m1, fc1, fm1, z1⟩ := both_go hb r hK (by decide) (by decide)
  have A1 : Blw n b t s (fun k' w' wp' L' c' => k' = k + 1 ∧ w' = w ∧ wp' = wp ∧ L' = L ∧ c' = c) σ1 τ1 := by
    have q2 : σ1.1 (t + 4) 2 = nI L := by rw [fc1.2.2 (t + 4) (by omega)]; exact eL
    rcases z1 with z1 | ⟨u1, u2⟩
    · exact Or.inl ⟨k + 1, w, wp, L, c, ⟨rfl, rfl, rfl, rfl, rfl⟩, z1, by omega, q2, by rw [fm1.2.1 12 (by decide) (by decide) (by decide)]; exact e12, by rw [fm1.2.1 44 (by decide) (by decide) (by decide)]; exact e44, by omega⟩
    · exact Or.inr ⟨⟨2, k, u1, u2⟩, L, by omega, q2⟩
  have e38_1 : τ1.1 0 38 = nI (130 * s + e) := by rw [fm1.2.1 38 (by decide) (by decide) (by decide)]; exact e38
  obtain ⟨P1, Q1, -, R1⟩ := Blw_C A1
  have A3 := Blw_M (c := 26) (j := 130 * s + e) (v := τ1.1 0 44) (Blw_M (c := 25) (j := 130 * s + e) (v := 1) (Blw_44 A1) (Or.inl ⟨by decide, by decide⟩)) (Or.inl ⟨by decide, by decide⟩)
  obtain ⟨τ3, hτ3⟩ : ∃ x, x = uI (uI τ1 25 (130 * s + e) 1) 26 (130 * s + e) (τ1.1 0 44) := ⟨_, rfl⟩
  rw [← hτ3] at A3
  -- the left side
  obtain ⟨σ4, τ4, c4, m4, fc4, fm4, A4⟩ := lawSum (e := F_X12_expression 0 τ3) hb hs A3 (fun _ => rfl) (exprU A3)
  obtain ⟨v5, σ5, τ5, c5, m5, fc5, fm5, A5⟩ := lawTake (x := 60) hb A4 (by decide) (by decide) (by decide)
  have e38_5 : τ5.1 0 38 = nI (130 * s + e) := by
    rw [fm5.2.1 38 (by decide) (by decide) (by decide), fm4.2.1 38 (by decide) (by decide) (by decide) (by decide) (by decide) (by decide), hτ3, uI_row _ _ (by decide), uI_row _ _ (by decide)]
    exact e38_1
  obtain ⟨P5, Q5, -, R5⟩ := Blw_C A5
  have A6 := Blw_M (c := 27) (j := 130 * s + e) (v := τ5.1 0 44) (Blw_44 A5) (Or.inl ⟨by decide, by decide⟩)
  obtain ⟨τ6, hτ6⟩ : ∃ x, x = uI τ5 27 (130 * s + e) (τ5.1 0 44) := ⟨_, rfl⟩
  rw [← hτ6] at A6
  -- the right side
  obtain ⟨σ7, τ7, c7, m7, fc7, fm7, A7⟩ := lawSum (e := if τ6.1 0 13 = 0 then F_X12_expression 0 τ6 else some τ6) hb hs A6 (fun q => if_pos q) (fun q => Or.inl (if_neg q))
  obtain ⟨v8, σ8, c8, fc8, A8⟩ := lawAdd (x := -60) A7 (fun k' w' wp' L' c' hi => by
    obtain ⟨k7, L7, c7', os2, ⟨⟨k5, e5, k4, L4, c4', os1, ⟨⟨u1, u2, u3, u4, u5⟩, -⟩, u6, u7, u8, u9, -⟩, -⟩, y6, y7, y8, y9, -⟩ := hi
    omega)
  obtain ⟨v9, σ9, c9, fc9, A9⟩ := lawAdd (x := 0) A8 (fun k' w' wp' L' c' hi => by
    obtain ⟨L8, x1, ⟨k7, L7, c7', os2, ⟨⟨k5, e5, k4, L4, c4', os1, ⟨⟨u1, u2, u3, u4, u5⟩, -⟩, u6, u7, u8, u9, -⟩, -⟩, y6, y7, y8, y9, -⟩, -⟩ := hi
    omega)
  obtain ⟨P7, Q7, -, R7⟩ := Blw_C A7
  obtain ⟨P8, Q8, -, -⟩ := Blw_C A8
  obtain ⟨P9, Q9, -, -⟩ := Blw_C A9
  obtain ⟨v10, σ10, τ10, c10, m10, fc10, fm10, A10⟩ := lawTake (x := 133) hb A9 (by decide) (by decide) (by decide)
  have e38_10 : τ10.1 0 38 = nI (130 * s + e) := by
    rw [fm10.2.1 38 (by decide) (by decide) (by decide), fm7.2.1 38 (by decide) (by decide) (by decide) (by decide) (by decide) (by decide), hτ6, uI_row _ _ (by decide)]
    exact e38_5
  obtain ⟨P10, Q10, -, R10⟩ := Blw_C A10
  have A11 := Blw_M (c := 28) (j := 130 * s + e) (v := τ10.1 0 44) (Blw_44 A10) (Or.inl ⟨by decide, by decide⟩)
  obtain ⟨τ11, hτ11⟩ : ∃ x, x = uI τ10 28 (130 * s + e) (τ10.1 0 44) := ⟨_, rfl⟩
  rw [← hτ11] at A11
  -- the value
  have h13 : τ11.1 0 13 = τ10.1 0 13 := by rw [hτ11, uI_row _ _ (by decide)]
  obtain ⟨σ12, τ12, c12, m12, fc12, fm12, A12⟩ := lawSum (e := if τ10.1 0 13 = 0 then F_X12_expression 0 τ11 else some τ11) hb hs A11 (fun q => if_pos (h13 ▸ q)) (fun q => Or.inl (if_neg (h13 ▸ q)))
  obtain ⟨P12, Q12, -, R12⟩ := Blw_C A12
  have e38_12 : τ12.1 0 38 = nI (130 * s + e) := by
    rw [fm12.2.1 38 (by decide) (by decide) (by decide) (by decide) (by decide) (by decide), hτ11, uI_row _ _ (by decide)]
    exact e38_10
  have A13 := Blw_M (c := 0) (j := 38) (v := nI (130 * s + e + 1)) (Blw_M (c := 29) (j := 130 * s + e) (v := τ12.1 0 44) (Blw_44 A12) (Or.inl ⟨by decide, by decide⟩)) (Or.inr ⟨rfl, rfl⟩)
  obtain ⟨τ13, hτ13⟩ : ∃ x, x = uI (uI τ12 29 (130 * s + e) (τ12.1 0 44)) 0 38 (nI (130 * s + e + 1)) := ⟨_, rfl⟩
  rw [← hτ13] at A13
  obtain ⟨v14, σ14, τ14, c14, m14, fc14, fm14, A14⟩ := lawTake (x := 134) hb A13 (by decide) (by decide) (by decide)
  obtain ⟨P14, Q14, -, R14⟩ := Blw_C A14
  obtain ⟨v15, σ15, c15, fc15, A15⟩ := lawAdd (x := -59) A14 (fun k' w' wp' L' c' hi => by
    obtain ⟨k14, w1, ⟨k12, L12, c12', os3, ⟨⟨k10, x0, ⟨L9, x2, ⟨L8, x1, ⟨k7, L7, c7', os2, ⟨⟨k5, e5, k4, L4, c4', os1, ⟨⟨u1, u2, u3, u4, u5⟩, -⟩, u6, u7, u8, u9, -⟩, -⟩, y6, y7, y8, y9, -⟩, -⟩, -⟩⟩, -⟩, q6, q7, q8, q9, -⟩, -⟩ := hi
    omega)
  obtain ⟨P15, Q15, -, -⟩ := Blw_C A15
  obtain ⟨σ16, c16, fc16, A16⟩ := lawAim (v := v9) A15
  refine ⟨σ16, τ14, ?_, ?_, ?_, ?_, ?_, ?_⟩
  · unfold F_X4_parseLaw_53
    rw [show F_X4_take 37 (132 : Int32) σ = F_X4_take 37 (nI 132) σ from rfl, cC_t c1, c4, Option.bind_some, show F_X4_take 37 (60 : Int32) σ4 = F_X4_take 37 (nI 60) σ4 from rfl, cC_t c5, c7, Option.bind_some, lawF σ7 P7 Q7, cC_t c8, lawF σ8 P8 Q8, cC_t c9, show F_X4_take 37 (133 : Int32) σ9 = F_X4_take 37 (nI 133) σ9 from rfl, cC_t c10, c12, Option.bind_some, show F_X4_take 37 (134 : Int32) σ12 = F_X4_take 37 (nI 134) σ12 from rfl, cC_t c14, lawF σ14 P14 Q14, cC_t c15, lawF σ15 P15 Q15, c16, Option.bind_some]
    unfold cL
    rw [nI_1]
  · have m3 : F_X12_tellLaw_33 0 (nI B0) (nI i) τ = (F_X12_expression 0 τ3).bind fun σ17 => (F_X12_must 0 (13 : Int32) σ17).bind fun σ19 => cR (σ19.2.2 0 41) (okr kM NM 101) fun z20 => cG (inb (σ19.1 0 38) (kM z20).2) <| cL (uI σ19 z20 (σ19.1 0 38).toNatClampNeg (σ19.1 0 44)) fun σ22 => if (σ22.1 0 13) = 0 then (F_X12_expression 0 σ22).bind fun σ24 => F_X12_tellLaw_105 0 (nI B0) (nI (i + 1)) σ24 else F_X12_tellLaw_105 0 (nI B0) (nI (i + 1)) σ22 := by
      unfold F_X12_tellLaw_33 cL
      dsimp only
      rw [r.2.1.2.2.2.2.2, if_pos (show (0 : Int32) ≤ 0 by decide), m1, Option.bind_some, rM_39 R1, e38_1, cG_t g25, cl_nI (by omega), rM_40 (show HM (uI τ1 25 (130 * s + e) (vp_nar .boolean 1)).2.2 from R1), uI_row _ _ (show (0 : Nat) ≠ 25 by decide), e38_1, cG_t g26, cl_nI (by omega), show (vp_nar .boolean (1 : Int32)) = 1 from rfl, ← hτ3, nI_1]
    rw [m3, m4, Option.bind_some, show F_X12_must 0 (13 : Int32) τ4 = F_X12_must 0 (nI (mkK 60)) τ4 from rfl, m5, Option.bind_some, rM_41 R5, e38_5, cG_t g27, cl_nI (by omega), ← hτ6]
    unfold cL
    dsimp only
    rw [if_bind, m7, Option.bind_some]
    unfold F_X12_tellLaw_105
    rw [show F_X12_must 0 (33 : Int32) τ7 = F_X12_must 0 (nI (mkK 133)) τ7 from rfl, m10, Option.bind_some, termB R10 hB e38_10, ← hτ11, m12, Option.bind_some, term24 R12 hB e38_12, Option.bind_some, ← hτ13, show F_X12_must 0 (34 : Int32) τ13 = F_X12_must 0 (nI (mkK 134)) τ13 from rfl, m14, Option.bind_some]
  · exact frX_trans (frX_T ht fc1) (frX_trans fc4 (frX_trans (frX_T ht fc5) (frX_trans fc7 (frX_trans fc8 (frX_trans fc9 (frX_trans (frX_T ht fc10) (frX_trans fc12 (frX_trans (frX_T ht fc14) (frX_trans fc15 fc16)))))))))
  · have a3 : frLw s τ1 τ3 := by rw [hτ3]; exact frLw_trans (frLw_I (c := 25) ⟨by decide, by decide⟩ (wdr 25 (by decide) (by decide))) (frLw_I (c := 26) ⟨by decide, by decide⟩ (wdr 26 (by decide) (by decide)))
    have a6 : frLw s τ5 τ6 := by rw [hτ6]; exact frLw_I (c := 27) ⟨by decide, by decide⟩ (wdr 27 (by decide) (by decide))
    have a11 : frLw s τ10 τ11 := by rw [hτ11]; exact frLw_I (c := 28) ⟨by decide, by decide⟩ (wdr 28 (by decide) (by decide))
    have a13 : frLw s τ12 τ13 := by rw [hτ13]; exact frLw_trans (frLw_I (c := 29) ⟨by decide, by decide⟩ (wdr 29 (by decide) (by decide))) frLw_38
    exact frLw_trans (frLw_N fm1) (frLw_trans a3 (frLw_trans (frLw_V fm4) (frLw_trans (frLw_N fm5) (frLw_trans a6 (frLw_trans (frLw_V fm7) (frLw_trans (frLw_N fm10) (frLw_trans a11 (frLw_trans (frLw_V fm12) (frLw_trans a13 (frLw_N fm14))))))))))
  · rw [fm14.2.1 38 (by decide) (by decide) (by decide), hτ13, uI_I, if_pos ⟨rfl, rfl⟩]
  · rcases A16 with ⟨k16, w16, wp16, L16, c16', ⟨⟨L15, x5, ⟨k14, x4, ⟨k12, L12, c12', os3, ⟨⟨k10, x0, ⟨L9, x2, ⟨L8, x1, ⟨k7, L7, c7', os2, ⟨⟨k5, e5, k4, L4, c4', os1, ⟨⟨u1, u2, u3, u4, u5⟩, u44⟩, u6, u7, u8, u9, u10, u11, u12, u13, u14, u15, u16⟩, y44⟩, y6, y7, y8, y9, y10, y11, y12, y13, y14, y15, y16⟩, x11, x12, x13⟩, x21, x22, x23⟩⟩, q44⟩, q6, q7, q8, q9, q10, q11, q12, q13, q14, q15, q16⟩, p44⟩, x51, x52, x53⟩, aim⟩, r', h1, h2, h3, h4, h5⟩ | d
    · left
      have hk16 := r'.1.2.2.2.2.2.1
      subst u1 u2 u3 u4 u5 e5 x0 x4 u8 u9 y8 y9 x1 x2 q8 q9 x5
      obtain ⟨aim1, aim2⟩ := aim (L4 + os1.length + os2.length + 1) (by omega) x21
      refine ⟨k14 + 1, _, c4' + os1.length + os2.length + os3.length, bs ++ [(os1, os2, os3)], by omega, r', by omega, h2, ?_, h3, h4, h5, ?_, by omega, hB0, ?_⟩
      · -- the class's cells
        have T1 : σ1.1 (t + 5) = σ.1 (t + 5) := fc1.2.2 _ (by omega)
        have T5 : σ5.1 (t + 5) = σ4.1 (t + 5) := fc5.2.2 _ (by omega)
        have T10 : σ10.1 (t + 5) = σ9.1 (t + 5) := fc10.2.2 _ (by omega)
        have T14 : σ14.1 (t + 5) = σ12.1 (t + 5) := fc14.2.2 _ (by omega)
        rw [T1] at u10
        rw [T5] at y10
        rw [T10] at q10
        rw [T14] at x53
        -- below the third term
        have lo : ∀ j, j < L4 + os1.length + os2.length + 1 + 1 → j ≠ L4 + os1.length + os2.length + 1 → σ16.1 (t + 5) j = σ9.1 (t + 5) j := fun j hj hn => by
          rw [aim2 j hn, x53 j (by omega), q10 j hj]
        have lo2 : ∀ j, j < L4 + os1.length + os2.length → σ16.1 (t + 5) j = σ7.1 (t + 5) j := fun j hj => by
          rw [lo j (by omega) (by omega), x23 j (by omega), x13 j (by omega)]
        have lo3 : ∀ j, j < L4 + os1.length → σ16.1 (t + 5) j = σ4.1 (t + 5) j := fun j hj => by
          rw [lo2 j (by omega), y10 j hj]
        have lo4 : ∀ j, j < L4 → σ16.1 (t + 5) j = σ.1 (t + 5) j := fun j hj => by
          rw [lo3 j (by omega), u10 j hj]
        refine cPre_snoc (q := (os1, os2, os3)) bs 0 L4 (cPre_congr bs 0 L4 lo4 hcp) ⟨?_, ?_, ?_, ?_, ?_, ?_, u14, y14, q14⟩
        · exact cOps_congr _ _ (fun j _ z => lo3 j z) u11
        · exact cOps_congr _ _ (fun j _ z => lo2 j z) y11
        · show σ16.1 (t + 5) (L4 + os1.length + os2.length) = -60
          rw [lo _ (by omega) (by omega), x23 _ (by omega)]; exact x12
        · exact aim1
        · exact cOps_congr _ _ (fun j p z => by
            have p : L4 + os1.length + os2.length + 2 ≤ j := p
            have z : j < L4 + os1.length + os2.length + 2 + os3.length := z
            rw [aim2 j (by omega), x53 j (by omega)]) q11
        · show σ16.1 (t + 5) (L4 + os1.length + os2.length + 2 + os3.length) = -59
          rw [aim2 _ (by omega)]; exact x52
      · rw [fm14.2.1 38 (by decide) (by decide) (by decide), hτ13, uI_I, if_pos ⟨rfl, rfl⟩, Nat.add_assoc]
      · -- the model's entries
        have W1 : ∀ r, r ≠ 0 → τ1.1 r = τ.1 r := fun r hr => fm1.2.2 r hr
        have rows : ∀ r j, 25 ≤ r → r ≤ 29 → τ14.1 r j = if r = 29 ∧ j = 130 * s + e then τ12.1 0 44 else if r = 28 ∧ j = 130 * s + e then τ10.1 0 44 else if r = 27 ∧ j = 130 * s + e then τ5.1 0 44 else if r = 26 ∧ j = 130 * s + e then τ1.1 0 44 else if r = 25 ∧ j = 130 * s + e then 1 else τ.1 r j := fun r j p q => by
          rw [fm14.2.2 r (by omega), hτ13, uI_row _ _ (show r ≠ 0 by omega), uI_I, fm12.2.2.1 r (by omega) (by omega) (by omega) (by omega), hτ11, uI_I, fm10.2.2 r (by omega), fm7.2.2.1 r (by omega) (by omega) (by omega) (by omega), hτ6, uI_I, fm5.2.2 r (by omega), fm4.2.2.1 r (by omega) (by omega) (by omega) (by omega), hτ3, uI_I, uI_I, W1 r (by omega)]
        have code : ∀ r, r = 30 ∨ r = 31 → τ3.1 r = τ.1 r ∧ τ5.1 r = τ4.1 r ∧ τ6.1 r = τ5.1 r ∧ τ10.1 r = τ7.1 r ∧ τ11.1 r = τ10.1 r ∧ τ13.1 r = τ12.1 r ∧ τ14.1 r = τ13.1 r := fun r hr => by
          refine ⟨?_, fm5.2.2 r (by omega), ?_, fm10.2.2 r (by omega), ?_, ?_, fm14.2.2 r (by omega)⟩
          · rw [hτ3, uI_row _ _ (by omega), uI_row _ _ (by omega), W1 r (by omega)]
          · rw [hτ6, uI_row _ _ (by omega)]
          · rw [hτ11, uI_row _ _ (by omega)]
          · rw [hτ13, uI_row _ _ (by omega), uI_row _ _ (by omega)]
        obtain ⟨a1, a2, a3, a4, a5, a6, a7⟩ := code 30 (Or.inl rfl)
        obtain ⟨b1, b2, b3, b4, b5, b6, b7⟩ := code 31 (Or.inr rfl)
        rw [a1, b1] at u12
        rw [a3, a2, b3, b2] at y12
        rw [a5, a4, b5, b4] at q12
        have k3 : ∀ j, j < 420 * s + (c4' + os1.length + os2.length) → τ14.1 30 j = τ7.1 30 j ∧ τ14.1 31 j = τ7.1 31 j := fun j hj => by rw [a7, a6, b7, b6]; exact q12 j hj
        have k2 : ∀ j, j < 420 * s + (c4' + os1.length) → τ14.1 30 j = τ4.1 30 j ∧ τ14.1 31 j = τ4.1 31 j := fun j hj => ⟨(k3 j (by omega)).1.trans (y12 j hj).1, (k3 j (by omega)).2.trans (y12 j hj).2⟩
        have k1 : ∀ j, j < 420 * s + c4' → τ14.1 30 j = τ.1 30 j ∧ τ14.1 31 j = τ.1 31 j := fun j hj => ⟨(k2 j (by omega)).1.trans (u12 j hj).1, (k2 j (by omega)).2.trans (u12 j hj).2⟩
        rw [← Nat.add_assoc]
        refine mPre_snoc bs B0 (130 * s + e) (mPre_congr bs B0 (130 * s + e) (fun r j p q _ z => ?_) (fun j _ hj => k1 j hj) (by omega) hmp) ⟨420 * s + c4', by omega, ?_, ?_, ?_, ?_, ?_, ?_, ?_, ?_, ?_, u14, y14, q14⟩
        · rw [rows r j p q, if_neg (by omega), if_neg (by omega), if_neg (by omega), if_neg (by omega), if_neg (by omega)]
        · rw [rows 25 _ (by decide) (by decide), if_neg (by omega), if_neg (by omega), if_neg (by omega), if_neg (by omega), if_pos ⟨rfl, rfl⟩]; decide
        · rw [rows 26 _ (by decide) (by decide), if_neg (by omega), if_neg (by omega), if_neg (by omega), if_pos ⟨rfl, rfl⟩]; exact u44
        · rw [rows 27 _ (by decide) (by decide), if_neg (by omega), if_neg (by omega), if_pos ⟨rfl, rfl⟩, y44]
          show nI _ = nI (420 * s + c4' + os1.length)
          rw [Nat.add_assoc]
        · rw [rows 28 _ (by decide) (by decide), if_neg (by omega), if_pos ⟨rfl, rfl⟩, q44]
          show nI _ = nI (420 * s + c4' + os1.length + os2.length)
          congr 1; omega
        · rw [rows 29 _ (by decide) (by decide), if_pos ⟨rfl, rfl⟩, p44]
          show nI _ = nI (420 * s + c4' + os1.length + os2.length + os3.length)
          congr 1; omega
        · exact mOps_congr _ _ (fun j _ z => k2 j (by have : j < 420 * s + c4' + os1.length := z; omega)) u13
        · show mOps (τ14.1 30) (τ14.1 31) (420 * s + c4' + os1.length) os2
          rw [Nat.add_assoc]
          exact mOps_congr _ _ (fun j _ z => k3 j (by omega)) y13
        · show mOps (τ14.1 30) (τ14.1 31) (420 * s + c4' + os1.length + os2.length) os3
          rw [a7, a6, b7, b6, show 420 * s + c4' + os1.length + os2.length = 420 * s + (c4' + os1.length + os2.length) by omega]
          exact q13
        · show 420 * s + c4' + os1.length + os2.length + os3.length ≤ _
          omega
    · exact Or.inr d
