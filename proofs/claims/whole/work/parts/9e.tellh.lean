/-! ===== PURE 69: a hill is told, in both ===== -/
theorem tellHill_B {n t : Nat} {b : Nat → Nat} {σ τ : hSt} {s H M : Nat} {F : Nat → (Nat → Nat) × Nat} {I : Nat → Nat → Nat → Prop} {v0 : Int64} {σ0 : hSt}
    (hn : n ≤ 2000) (hb : ∀ i, b i < 256) (hB : Bth n b t I σ τ) (hg : F_X4_take 37 (nI 128) σ0 = some (v0, σ)) (f0 : frT σ0 σ) (hP0 : σ0.2.2 37 3 = some t)
    (hs : s < 2) (hH : H < 6) (hM : M ≤ 4) (e0 : σ.1 t 0 = nI H) (e3 : σ.1 t 3 = nI M) (m19 : τ.1 0 19 = nI s) (m11 : τ.1 11 s = nI H) (m20 : τ.1 0 20 = nI (H + M)) (hF : ∀ k w wp, I k w wp → w = 0 → NmR H M F σ τ) :
    ∃ σ' τ', (F_X4_parseHill 37 σ0).bind (fun z => F_X4_parseTell_158 37 z) = some σ' ∧ F_X12_tellHill 0 τ = some τ' ∧ frPC t σ σ' ∧ frPM s τ τ' ∧
      ((∃ k0 k' w w' wp wp' p X Y, I k0 w wp ∧ k0 + 4 = k' ∧ RdR n b t k' w' wp' σ' τ' ∧
        (∀ c, c ≠ 37 → ∀ j, σ'.1 c j = if c = t ∧ j = 0 then nI (H + 1) else if c = t + 2 ∧ j = H then nI Y else if c = t + 1 ∧ j = H then nI X else σ.1 c j) ∧
        (∀ j, σ'.2.1 42 j = if j = H then c32 p else σ.2.1 42 j) ∧ (∀ j, σ'.2.1 43 j = σ.2.1 43 j) ∧
        (∀ c, c ≠ 0 → ∀ j, τ'.1 c j = if c = 11 ∧ j = s then nI (H + 1) else if c = 10 ∧ j = H + M then nI H else if c = 9 ∧ j = H + M then 0 else if c = 13 ∧ j = 6 * s + H then nI Y else if c = 12 ∧ j = 6 * s + H then nI X else τ.1 c j) ∧
        (∀ j, τ'.2.1 8 j = if j = H + M then c27 p else τ.2.1 8 j) ∧ τ'.1 0 20 = nI (H + M + 1) ∧ (∀ j, j ≠ 11 → j ≠ 13 → j ≠ 14 → j ≠ 15 → j ≠ 16 → j ≠ 20 → τ'.1 0 j = τ.1 0 j) ∧
        (w' = 0 → w = 0 ∧ vN p ∧ (∀ i, i < H + M → ¬ c27 (F i) = c27 p) ∧ X < 100 ∧ Y < 100)) ∨ DdR n b t σ' τ') := by
  obtain ⟨hP, hp3, ht, hQ⟩ := Bth_C hB
  obtain ⟨t1, t2, t3⟩ := t_ok ht
  have w6 : ∀ a, (kC a).2 = 6 → inb (nI H) (kC a).2 = true := fun a e => inb_nI (by rw [e]; exact hH) (by rw [e]; decide)
  have eS : σ0.1 t 0 = nI H := by rw [← f0.2.2 t (by omega)]; exact e0
  have e6 : (6 : Int32) * nI s + nI H = nI (6 * s + H) := by rw [show (6 : Int32) = nI 6 from rfl, pk_mul, nI_add]
  have g12 : inb (nI (6 * s + H)) (kM 12).2 = true := inb_nI (by rw [kM_12]; omega) (by decide)
  have g13 : inb (nI (6 * s + H)) (kM 13).2 = true := inb_nI (by rw [kM_13]; omega) (by decide)
  have g11 : inb (nI s) (kM 11).2 = true := inb_nI (by rw [kM_11]; exact hs) (by decide)
  -- the name
  obtain ⟨v, σ2, τ2, k0, n1, n2, n3, n4, n5, n6⟩ := newB hn hb hB (by omega) hM e0 e3 m20 hF
  have B3 := Bth_e (σ' := uJ σ2 42 H v) (τ' := τ2) n6 ⟨rfl, rfl, rfl, rfl, uJ_row _ _ (by decide)⟩ eqM_rfl
  -- its x
  obtain ⟨x, y, σ4, τ3, x1, x2, x3, x4, x5⟩ := numB (lo := 0) (hi := 99) hn hb B3 (by decide) (by decide)
  have B5 := Bth_e (σ' := uI σ4 (t + 1) H x) (τ' := uI τ3 12 (6 * s + H) y) x5 ⟨rfl, uI_row _ _ (by omega), uI_row _ _ (by omega), uI_row _ _ (by omega), rfl⟩ ⟨rfl, rfl, fun j _ _ _ => uI_ne _ _ (by omega), fun c _ _ => uI_row _ _ (by omega)⟩
  -- its y
  obtain ⟨x', y', σ6, τ5, y1, y2, y3, y4, y5⟩ := numB (lo := 0) (hi := 99) hn hb B5 (by decide) (by decide)
  have B7 := Bth_e (σ' := uI (uI σ6 (t + 2) H x') t 0 (nI (H + 1))) (τ' := uI τ5 13 (6 * s + H) y') y5 ⟨rfl, by rw [uI_row _ _ (by omega), uI_row _ _ (by omega)], by rw [uI_row _ _ (by omega), uI_row _ _ (by omega)], by rw [uI_row _ _ (by omega), uI_row _ _ (by omega)], rfl⟩ ⟨rfl, rfl, fun j _ _ _ => uI_ne _ _ (by omega), fun c _ _ => uI_row _ _ (by omega)⟩
  obtain ⟨v9, σ9, τ7, z1, z2, z3, z4, z5⟩ := takeB (x := 59) hb B7 (by decide) (by decide) (by decide)
  obtain ⟨P3, Q3, -, R3⟩ := Bth_C B3
  obtain ⟨P5, Q5, -, R5⟩ := Bth_C B5
  obtain ⟨P5', Q5', -, R5'⟩ := Bth_C y5
  have EC : (F_X4_parseHill 37 σ0).bind (fun z => F_X4_parseTell_158 37 z) = some σ9 := by
    have E : F_X4_parseHill 37 σ0 = some (uI (uI σ6 (t + 2) H x') t 0 (nI (H + 1))) := by
      unfold F_X4_parseHill cL
      dsimp only
      rw [r37 hP0 ht, eS, if_pos (show nI H < (6 : Int32) from nI_lt (b := 6) hH (by decide)), show F_X4_take 37 (128 : Int32) σ0 = F_X4_take 37 (nI 128) σ0 from rfl, cC_t hg, rC_4_1 hP (c := 37) (by decide), cC_t n1, show (37 + 5 : Nat) = 42 from rfl, cG_t (w6 42 k42), cl_nI (by omega)]
      rw [r37 Q3 ht, rC_7_1 P3 t1, show F_X4_takeNumber 37 (0 : Int32) (99 : Int32) (uJ σ2 42 H v) = F_X4_takeNumber 37 (nI 0) (nI 99) (uJ σ2 42 H v) from rfl, cC_t x1, cG_t (w6 _ (nC_7_1 t1))]
      rw [r37 Q5 ht, rC_7_2 P5 t1, show F_X4_takeNumber 37 (0 : Int32) (99 : Int32) (uI σ4 (t + 1) H x) = F_X4_takeNumber 37 (nI 0) (nI 99) (uI σ4 (t + 1) H x) from rfl, cC_t y1, cG_t (w6 _ (nC_7_2 t1))]
      rw [r37 (show (uI σ6 (t + 2) H x').2.2 37 3 = some t from Q5') ht, nI_1]
    rw [E, Option.bind_some, tellC_take z1]
  have m19' : ∀ z, frKM τ z → z.1 0 19 = nI s := fun z f => by rw [f.2.1 19 (by decide) (by decide) (by decide) (by decide) (by decide)]; exact m19
  have fM3 : frKM τ2 τ3 := x4
  have EM : F_X12_tellHill 0 τ = (if τ7.1 0 13 ≤ 0 then (F_X12_notes 0 (nI k0) (0 : Int32) (nI H) τ7).bind fun σ24 => cL (uI σ24 11 s (nI (H + 1))) fun σ29 => some σ29 else some τ7) := by
    have a19 : τ7.1 0 19 = nI s := by
      rw [z4.2.1 19 (by decide) (by decide) (by decide) (by decide) (by decide), uI_row _ _ (by decide), y4.2.1 19 (by decide) (by decide) (by decide) (by decide) (by decide), uI_row _ _ (by decide), x4.2.1 19 (by decide) (by decide) (by decide) (by decide) (by decide), n5.2.1 19 (by decide) (by decide) (by decide) (by decide) (by decide)]
      exact m19
    have a11 : τ7.1 11 s = nI H := by
      rw [z4.2.2 11 (by decide), uI_row _ _ (by decide), y4.2.2 11 (by decide), uI_row _ _ (by decide), x4.2.2 11 (by decide), n5.2.2 11 (by decide)]
      exact m11
    have a20 : τ7.1 0 20 = nI (H + M) := by
      rw [z4.2.1 20 (by decide) (by decide) (by decide) (by decide) (by decide), uI_row _ _ (by decide), y4.2.1 20 (by decide) (by decide) (by decide) (by decide) (by decide), uI_row _ _ (by decide), x4.2.1 20 (by decide) (by decide) (by decide) (by decide) (by decide), n5.2.1 20 (by decide) (by decide) (by decide) (by decide) (by decide)]
      exact m20
    obtain ⟨P9, Q9, -, R9⟩ := Bth_C z5
    have Q2' : HM τ2.2.2 := R3
    unfold F_X12_tellHill cL
    dsimp only
    rw [rM_24 hQ, m19, cG_t g11, cl_nI (by omega), m11, e6, cC_t n2, rM_25 Q2', show F_X12_bounded 0 (0 : Int32) (99 : Int32) τ2 = F_X12_bounded 0 (nI 0) (nI 99) τ2 from rfl, cC_t x2, cG_t g12, cl_nI (by omega)]
    rw [rM_26 R5, show F_X12_bounded 0 (0 : Int32) (99 : Int32) (uI τ3 12 (6 * s + H) y) = F_X12_bounded 0 (nI 0) (nI 99) (uI τ3 12 (6 * s + H) y) from rfl, cC_t y2, cG_t g13, show F_X12_must 0 (4 : Int32) (uI τ5 13 (6 * s + H) y') = F_X12_must 0 (nI (mkK 59)) (uI τ5 13 (6 * s + H) y') from rfl, z2, Option.bind_some]
    by_cases q : τ7.1 0 13 ≤ 0
    · rw [if_pos q, if_pos q, rM_24 R9, a19, cG_t g11, cl_nI (by omega), a11]
      rw [notesM R9 n3 (by omega) a20, Option.bind_some, Option.bind_some]
      rw [rM_24 (show HM (uI (uI (uI (uJ τ7 8 (H + M) (τ7.2.1 6 k0)) 9 (H + M) 0) 10 (H + M) (nI H)) 0 20 (nI (H + M + 1))).2.2 from R9)]
      have b19 : (uI (uI (uI (uJ τ7 8 (H + M) (τ7.2.1 6 k0)) 9 (H + M) 0) 10 (H + M) (nI H)) 0 20 (nI (H + M + 1))).1 0 19 = nI s := by
        rw [uI_ne _ _ (by omega), uI_row _ _ (by decide), uI_row _ _ (by decide)]
        exact a19
      have b11 : (uI (uI (uI (uJ τ7 8 (H + M) (τ7.2.1 6 k0)) 9 (H + M) 0) 10 (H + M) (nI H)) 0 20 (nI (H + M + 1))).1 11 s = nI H := by
        rw [uI_row _ _ (by decide), uI_row _ _ (by decide), uI_row _ _ (by decide)]
        exact a11
      rw [b19, cG_t g11, cG_t g11, cl_nI (by omega), b11, nI_1]
    · rw [if_neg q, if_neg q]
  have FC : frPC t σ σ9 := frPC_trans (frPC_trans (frPC_trans (frPC_trans (frPC_trans (frPC_trans (frPC_trans (frPC_K n4) (frPC_J (Or.inl rfl))) (frPC_K x3)) (frPC_I (c := t + 1) (by omega))) (frPC_K y3)) (frPC_I (c := t + 2) (by omega))) (frPC_I (c := t) (by omega))) (frPC_K z3)
  have FM : frPM s τ τ7 := frPM_trans (frPM_trans (frPM_trans (frPM_trans (frPM_trans (frPM_K n5) (frPM_K x4)) (frPM_I (sR_of (c := 12) (w := 6) (by decide) (by decide) rfl hH) (by decide))) (frPM_K y4)) (frPM_I (sR_of (c := 13) (w := 6) (by decide) (by decide) rfl hH) (by decide))) (frPM_K z4)
  rw [EC, EM]
  rcases z5 with ⟨k9, w9, wp9, i9, r9⟩ | ⟨f, j, d1, d2⟩
  · have h13 : τ7.1 0 13 = 0 := r9.2.1.2.2.2.2.2
    have R9 : HM τ7.2.2 := r9.2.1.1
    have a20 : τ7.1 0 20 = nI (H + M) := by
      rw [z4.2.1 20 (by decide) (by decide) (by decide) (by decide) (by decide), uI_row _ _ (by decide), y4.2.1 20 (by decide) (by decide) (by decide) (by decide) (by decide), uI_row _ _ (by decide), x4.2.1 20 (by decide) (by decide) (by decide) (by decide) (by decide), n5.2.1 20 (by decide) (by decide) (by decide) (by decide) (by decide)]
      exact m20
    rw [h13, if_pos (show (0 : Int32) ≤ 0 by decide), notesM R9 n3 (by omega) a20, Option.bind_some]
    unfold cL
    refine ⟨σ9, _, rfl, rfl, FC, frPM_trans FM ?_, Or.inl ?_⟩
    · exact frPM_trans (frPM_trans (frPM_trans (frPM_trans frPM_J (frPM_I (c := 9) (Or.inl rfl) (by decide))) (frPM_I (c := 10) (Or.inr (Or.inl rfl)) (by decide))) (frPM_F (j := 20) (by unfold sF; omega))) (frPM_I (sR_1 (c := 11) (by decide) (by decide) rfl) (by decide))
    · obtain ⟨k8, e8, ⟨k7, w7, wp7, mY, e7, ⟨k6, w6', wp6, mX, e6', ⟨w5, wp5, p, e5, i5, kk2, p1, p2, p3, p4⟩, kx, ix1, ix2, ix3⟩, ky, iy1, iy2, iy3⟩, kz⟩ := i9
      have n8 : τ7.2.1 6 k0 = c27 p := by
        rw [z4.1, uI_J, y4.1, uI_J, x4.1, n5.1]
        exact p3
      refine ⟨k0, k9, w5, w9, wp5, wp9, p, mX, mY, i5, by omega, ?_, ?_, ?_, ?_, ?_, ?_, ?_, ?_, ?_⟩
      · refine RdR_e r9 eqC_rfl ⟨rfl, ?_, fun j a1 a2 a3 => ?_, fun c a1 a2 => ?_⟩
        · rw [uI_J, uI_J, uI_J, uI_J, uJ_row _ _ (by decide)]
        · rw [uI_row _ _ (by decide), uI_ne _ _ (by omega), uI_row _ _ (by decide), uI_row _ _ (by decide)]
          rfl
        · rw [uI_row _ _ (by omega), uI_row _ _ (by omega), uI_row _ _ (by omega), uI_row _ _ (by omega)]
          rfl
      · intro c hc j
        rw [z3.2 c hc, uI_I, uI_I, y3.2 c hc, uI_I, x3.2 c hc, uJ_I1, n4.2 c hc, ix1, iy1]
      · intro j
        rw [z3.1, uI_J, uI_J, y3.1, uI_J, x3.1, uJ_J, n4.1, p2]
        by_cases q : j = H
        · rw [if_pos ⟨rfl, q⟩, if_pos q]
        · rw [if_neg (fun a => q a.2), if_neg q]
      · intro j
        rw [z3.1, uI_J, uI_J, y3.1, uI_J, x3.1, uJ_row _ _ (by decide), n4.1]
      · intro c hc j
        rw [uI_I, uI_row _ _ hc, uI_I, uI_I, uJ_I1, z4.2.2 c hc, uI_I, y4.2.2 c hc, uI_I, x4.2.2 c hc, n5.2.2 c hc, ix2, iy2]
      · intro j
        rw [uI_J, uI_J, uI_J, uI_J, uJ_J, n8, z4.1, uI_J, y4.1, uI_J, x4.1, n5.1]
        by_cases q : j = H + M
        · rw [if_pos ⟨rfl, q⟩, if_pos q]
        · rw [if_neg (fun a => q a.2), if_neg q]
      · rw [uI_row _ _ (by decide), uI_I, if_pos ⟨rfl, rfl⟩]
      · intro j a1 a2 a3 a4 a5 a6
        rw [uI_row _ _ (by decide), uI_ne _ _ (by omega), uI_row _ _ (by decide), uI_row _ _ (by decide), uJ_I1, z4.2.1 j a1 a2 a3 a4 a5, uI_row _ _ (by decide), y4.2.1 j a1 a2 a3 a4 a5, uI_row _ _ (by decide), x4.2.1 j a1 a2 a3 a4 a5, n5.2.1 j a1 a2 a3 a4 a5]
      · intro q
        obtain ⟨q7, l1, l2⟩ := iy3 q
        obtain ⟨q6, l3, l4⟩ := ix3 q7
        obtain ⟨q5, l5⟩ := p4 q6
        exact ⟨q5, p1, l5, by omega, by omega⟩
  · rw [if_neg (DdM_pos d2).2.1]
    exact ⟨σ9, τ7, rfl, rfl, FC, FM, Or.inr ⟨f, j, d1, d2⟩⟩
