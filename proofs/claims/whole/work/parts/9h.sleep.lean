/-! ===== PURE 72: a sleeper is told, in both ===== -/
theorem sleepC_dead {n t f j H M S : Nat} {b : Nat → Nat} {z σ : hSt} {v : Int64} (hg : F_X4_take 37 (nI 140) σ = some (v, z)) (h : DdC n b t f j z) (hP : σ.2.2 37 3 = some t) (hH : H ≤ 6) (hM : M ≤ 4) (hS : S < 4) (eS : σ.1 t 9 = nI S) (eH : z.1 t 0 = nI H) (eM : z.1 t 3 = nI M) :
    ∃ σ', F_X4_parseSleeper 37 σ = some σ' ∧ DdC n b t f j σ' ∧ frPC t z σ' := by
  have ht := h.2.2.1
  obtain ⟨t1, t2, t3⟩ := t_ok ht
  have w4 : ∀ a, (kC a).2 = 4 → inb (nI S) (kC a).2 = true := fun a e => inb_nI (by rw [e]; exact hS) (by rw [e]; decide)
  obtain ⟨x, hx⟩ := oneD_C (a := 42) (N := H) h (by rw [k42]; exact hH) (by rw [k42]; decide)
  have d1 : DdC n b t f j (uI z (t + 11) S x) := DdC_e h ⟨rfl, uI_row _ _ (by omega), uI_row _ _ (by omega), uI_row _ _ (by omega), rfl⟩
  obtain ⟨y, hy⟩ := oneD_C (a := 43) (N := M) d1 (by rw [k43]; exact hM) (by rw [k43]; decide)
  have d2 : DdC n b t f j (uI (uI z (t + 11) S x) (t + 12) S y) := DdC_e d1 ⟨rfl, uI_row _ _ (by omega), uI_row _ _ (by omega), uI_row _ _ (by omega), rfl⟩
  have d3 : DdC n b t f j (uI (uI (uI z (t + 11) S x) (t + 12) S y) (t + 13) S 0) := DdC_e d2 ⟨rfl, uI_row _ _ (by omega), uI_row _ _ (by omega), uI_row _ _ (by omega), rfl⟩
  have E : F_X4_parseSleeper 37 σ = some (uI (uI (uI (uI z (t + 11) S x) (t + 12) S y) (t + 13) S 0) t 9 (nI (S + 1))) := by
    unfold F_X4_parseSleeper cL
    dsimp only
    rw [r37 hP ht, eS, if_pos (show nI S < (4 : Int32) from nI_lt (b := 4) hS (by decide)), show F_X4_take 37 (140 : Int32) σ = F_X4_take 37 (nI 140) σ from rfl, cC_t hg, r37 h.2.1 ht, rC_7_10 h.1 t1, rC_4_1 h.1 (c := 37) (by decide), r37 h.2.1 ht, show (37 + 5 : Nat) = 42 from rfl, eH, cC_t hx, cG_t (w4 _ (nC_7_10 t1)), cl_nI (by omega)]
    rw [r37 d1.2.1 ht, rC_7_11 d1.1 t1, rC_4_2 d1.1 (c := 37) (by decide), r37 d1.2.1 ht, show (37 + 6 : Nat) = 43 from rfl, uI_row _ _ (show t ≠ t + 11 by omega), eM, cC_t hy, cG_t (w4 _ (nC_7_11 t1))]
    rw [r37 d2.2.1 ht, rC_7_12 d2.1 t1, cC_t (numD_C d2), cG_t (w4 _ (nC_7_12 t1))]
    rw [r37 d3.2.1 ht, nI_1]
  refine ⟨_, E, DdC_e d3 ⟨rfl, uI_row _ _ (by omega), uI_row _ _ (by omega), uI_row _ _ (by omega), rfl⟩, ?_⟩
  exact frPC_trans (frPC_trans (frPC_trans (frPC_I (c := t + 11) (by omega)) (frPC_I (c := t + 12) (by omega))) (frPC_I (c := t + 13) (by omega))) (frPC_I (c := t) (by omega))
theorem tellSleep_B {n t : Nat} {b : Nat → Nat} {σ τ : hSt} {s H M S : Nat} {F : Nat → (Nat → Nat) × Nat} {I : Nat → Nat → Nat → Prop} {v0 : Int64} {σ0 : hSt}
    (hn : n ≤ 2000) (hb : ∀ i, b i < 256) (hB : Bth n b t I σ τ) (hg : F_X4_take 37 (nI 140) σ0 = some (v0, σ)) (f0 : frT σ0 σ) (hP0 : σ0.2.2 37 3 = some t)
    (hs : s < 2) (hH : H ≤ 6) (hM : M ≤ 4) (hS : S < 4) (e0 : σ.1 t 0 = nI H) (e3 : σ.1 t 3 = nI M) (e9 : σ.1 t 9 = nI S) (m19 : τ.1 0 19 = nI s) (m19s : τ.1 19 s = nI S) (m20 : τ.1 0 20 = nI (H + M)) (hF : ∀ k w wp, I k w wp → w = 0 → NmR H M F σ τ) :
    ∃ σ' τ', (F_X4_parseSleeper 37 σ0).bind (fun z => F_X4_parseTell_158 37 z) = some σ' ∧ F_X12_tellSleeper 0 τ = some τ' ∧ frPC t σ σ' ∧ frPM s τ τ' ∧
      ((∃ k0 k' w w' wp wp' x y x' y' Z, I k0 w wp ∧ k0 + 4 = k' ∧ RdR n b t k' w' wp' σ' τ' ∧
        (∀ c, c ≠ 37 → ∀ j, σ'.1 c j = if c = t ∧ j = 9 then nI (S + 1) else if c = t + 13 ∧ j = S then nI Z else if c = t + 12 ∧ j = S then x' else if c = t + 11 ∧ j = S then x else σ.1 c j) ∧
        σ'.2 = σ.2 ∧
        (∀ c, c ≠ 0 → ∀ j, τ'.1 c j = if c = 19 ∧ j = s then nI (S + 1) else if c = 22 ∧ j = 4 * s + S then nI Z else if c = 21 ∧ j = 4 * s + S then y' else if c = 20 ∧ j = 4 * s + S then y else τ.1 c j) ∧
        τ'.2 = τ.2 ∧ (∀ j, j ≠ 11 → j ≠ 13 → j ≠ 14 → j ≠ 15 → j ≠ 16 → τ'.1 0 j = τ.1 0 j) ∧
        (w' = 0 → w = 0 ∧ 0 < Z ∧ Z < 10 ∧ ∃ h m, h < H ∧ m < M ∧ x = nI h ∧ y = nI h ∧ x' = nI m ∧ y' = nI m)) ∨ DdR n b t σ' τ') := by
  obtain ⟨hP, hp3, ht, hQ⟩ := Bth_C hB
  obtain ⟨t1, t2, t3⟩ := t_ok ht
  have w4 : ∀ a, (kC a).2 = 4 → inb (nI S) (kC a).2 = true := fun a e => inb_nI (by rw [e]; exact hS) (by rw [e]; decide)
  have eS : σ0.1 t 9 = nI S := by rw [← f0.2.2 t (by omega)]; exact e9
  have e6 : (4 : Int32) * nI s + nI S = nI (4 * s + S) := by rw [show (4 : Int32) = nI 4 from rfl, pk_mul, nI_add]
  have g20 : inb (nI (4 * s + S)) (kM 20).2 = true := inb_nI (by rw [kM_20]; omega) (by decide)
  have g21 : inb (nI (4 * s + S)) (kM 21).2 = true := inb_nI (by rw [kM_21]; omega) (by decide)
  have g22 : inb (nI (4 * s + S)) (kM 22).2 = true := inb_nI (by rw [kM_22]; omega) (by decide)
  have g19 : inb (nI s) (kM 19).2 = true := inb_nI (by rw [kM_19]; exact hs) (by decide)
  obtain ⟨x, y, σ2, τ2, n1, n2, n4, n5, n6⟩ := hillB (H := H) (M := M) (F := F) hn hb hB hH hM m20 hF
  have B3 := Bth_e (σ' := uI σ2 (t + 11) S x) (τ' := uI τ2 20 (4 * s + S) y) n6 ⟨rfl, uI_row _ _ (by omega), uI_row _ _ (by omega), uI_row _ _ (by omega), rfl⟩ ⟨rfl, rfl, fun j _ _ _ => uI_ne _ _ (by omega), fun c _ _ => uI_row _ _ (by omega)⟩
  have hF' : ∀ k' w' wp' : Nat, (∃ k w wp, k' = k + 1 ∧ I k w wp ∧ (w' = 0 → w = 0 ∧ ∃ h, h < H ∧ x = nI h ∧ y = nI h)) → w' = 0 → NmR H M F (uI σ2 (t + 11) S x) (uI τ2 20 (4 * s + S) y) := fun k' w' wp' i q => by
    obtain ⟨k, w, wp, -, i1, i2⟩ := i
    refine NmR_fr (hF k w wp i1 (i2 q).1) ?_ ?_ ?_ ?_
    · rw [uI_J, n4.1]
    · rw [uI_J, n5.1]
    · rw [uI_row _ _ (by decide), n5.2.2 9 (by decide)]
    · rw [uI_row _ _ (by decide), n5.2.2 10 (by decide)]
  obtain ⟨x', y', σ4, τ4, x1, x2, x3, x4, x5⟩ := newsB (H := H) (M := M) (F := F) hn hb B3 hH hM (by rw [uI_row _ _ (by decide), n5.2.1 20 (by decide) (by decide) (by decide) (by decide) (by decide)]; exact m20) hF'
  have B5 := Bth_e (σ' := uI σ4 (t + 12) S x') (τ' := uI τ4 21 (4 * s + S) y') x5 ⟨rfl, uI_row _ _ (by omega), uI_row _ _ (by omega), uI_row _ _ (by omega), rfl⟩ ⟨rfl, rfl, fun j _ _ _ => uI_ne _ _ (by omega), fun c _ _ => uI_row _ _ (by omega)⟩
  obtain ⟨x'', y'', σ6, τ6, y1, y2, y3, y4, y5⟩ := numB (lo := 1) (hi := 9) hn hb B5 (by decide) (by decide)
  have B7 := Bth_e (σ' := uI (uI σ6 (t + 13) S x'') t 9 (nI (S + 1))) (τ' := uI τ6 22 (4 * s + S) y'') y5 ⟨rfl, by rw [uI_row _ _ (by omega), uI_row _ _ (by omega)], by rw [uI_row _ _ (by omega), uI_row _ _ (by omega)], by rw [uI_row _ _ (by omega), uI_row _ _ (by omega)], rfl⟩ ⟨rfl, rfl, fun j _ _ _ => uI_ne _ _ (by omega), fun c _ _ => uI_row _ _ (by omega)⟩
  obtain ⟨v9, σ9, τ7, z1, z2, z3, z4, z5⟩ := takeB (x := 59) hb B7 (by decide) (by decide) (by decide)
  obtain ⟨P3, Q3, -, R3⟩ := Bth_C B3
  obtain ⟨P5, Q5, -, R5⟩ := Bth_C B5
  obtain ⟨P6, Q6, -, R6⟩ := Bth_C y5
  obtain ⟨P9, Q9, -, R9⟩ := Bth_C z5
  have q3 : (uI σ2 (t + 11) S x).1 t 3 = nI M := by rw [uI_row _ _ (by omega), n4.2 t (by omega)]; exact e3
  have EC : (F_X4_parseSleeper 37 σ0).bind (fun z => F_X4_parseTell_158 37 z) = some σ9 := by
    have E : F_X4_parseSleeper 37 σ0 = some (uI (uI σ6 (t + 13) S x'') t 9 (nI (S + 1))) := by
      unfold F_X4_parseSleeper cL
      dsimp only
      rw [r37 hP0 ht, eS, if_pos (show nI S < (4 : Int32) from nI_lt (b := 4) hS (by decide)), show F_X4_take 37 (140 : Int32) σ0 = F_X4_take 37 (nI 140) σ0 from rfl, cC_t hg, r37 hp3 ht, rC_7_10 hP t1, rC_4_1 hP (c := 37) (by decide), r37 hp3 ht, show (37 + 5 : Nat) = 42 from rfl, e0, cC_t n1, cG_t (w4 _ (nC_7_10 t1)), cl_nI (by omega)]
      rw [r37 Q3 ht, rC_7_11 P3 t1, rC_4_2 P3 (c := 37) (by decide), r37 Q3 ht, show (37 + 6 : Nat) = 43 from rfl, q3, cC_t x1, cG_t (w4 _ (nC_7_11 t1))]
      rw [r37 Q5 ht, rC_7_12 P5 t1, show F_X4_takeNumber 37 (1 : Int32) (9 : Int32) (uI σ4 (t + 12) S x') = F_X4_takeNumber 37 (nI 1) (nI 9) (uI σ4 (t + 12) S x') from rfl, cC_t y1, cG_t (w4 _ (nC_7_12 t1))]
      rw [r37 (show (uI σ6 (t + 13) S x'').2.2 37 3 = some t from Q6) ht, nI_1]
    rw [E, Option.bind_some, tellC_take z1]
  have a0 : ∀ j, j ≠ 11 → j ≠ 13 → j ≠ 14 → j ≠ 15 → j ≠ 16 → τ7.1 0 j = τ.1 0 j := fun j a1 a2 a3 a4 a5 => by
    rw [z4.2.1 j a1 a2 a3 a4 a5, uI_row _ _ (by decide), y4.2.1 j a1 a2 a3 a4 a5, uI_row _ _ (by decide), x4.2.1 j a1 a2 a3 a4 a5, uI_row _ _ (by decide), n5.2.1 j a1 a2 a3 a4 a5]
  have a19 : τ7.1 0 19 = nI s := by rw [a0 19 (by decide) (by decide) (by decide) (by decide) (by decide)]; exact m19
  have a19s : τ7.1 19 s = nI S := by
    rw [z4.2.2 19 (by decide), uI_row _ _ (by decide), y4.2.2 19 (by decide), uI_row _ _ (by decide), x4.2.2 19 (by decide), uI_row _ _ (by decide), n5.2.2 19 (by decide)]
    exact m19s
  have f77 : ∀ z, F_X12_tellSleeper_77 z = some z := fun _ => rfl
  have EM : F_X12_tellSleeper 0 τ = (if τ7.1 0 13 = 0 then some (uI τ7 19 s (nI (S + 1))) else some τ7) := by
    unfold F_X12_tellSleeper cL
    dsimp only
    rw [rM_32 hQ, m19, cG_t g19, cl_nI (by omega), m19s, e6, rM_33 hQ, show F_X12_known 0 (0 : Int32) τ = F_X12_known 0 (nI 0) τ from rfl, cC_t n2, cG_t g20, cl_nI (by omega)]
    rw [rM_34 R3, show F_X12_known 0 (1 : Int32) (uI τ2 20 (4 * s + S) y) = F_X12_known 0 (nI 1) (uI τ2 20 (4 * s + S) y) from rfl, cC_t x2, cG_t g21]
    rw [rM_35 R5, show F_X12_bounded 0 (1 : Int32) (9 : Int32) (uI τ4 21 (4 * s + S) y') = F_X12_bounded 0 (nI 1) (nI 9) (uI τ4 21 (4 * s + S) y') from rfl, cC_t y2, cG_t g22]
    rw [show F_X12_must 0 (4 : Int32) (uI τ6 22 (4 * s + S) y'') = F_X12_must 0 (nI (mkK 59)) (uI τ6 22 (4 * s + S) y'') from rfl, z2, Option.bind_some]
    by_cases q : τ7.1 0 13 = 0
    · rw [if_pos q, if_pos q, rM_32 R9, a19, cG_t g19, cG_t g19, cl_nI (by omega), a19s, nI_1, f77]
    · rw [if_neg q, if_neg q, f77]
  have FC : frPC t σ σ9 := frPC_trans (frPC_trans (frPC_trans (frPC_trans (frPC_trans (frPC_trans (frPC_trans (frPC_K n4) (frPC_I (c := t + 11) (by omega))) (frPC_K x3)) (frPC_I (c := t + 12) (by omega))) (frPC_K y3)) (frPC_I (c := t + 13) (by omega))) (frPC_I (c := t) (by omega))) (frPC_K z3)
  have FM : frPM s τ τ7 := frPM_trans (frPM_trans (frPM_trans (frPM_trans (frPM_trans (frPM_trans (frPM_K n5) (frPM_I (sR_of (c := 20) (w := 4) (by decide) (by decide) rfl hS) (by decide))) (frPM_K x4)) (frPM_I (sR_of (c := 21) (w := 4) (by decide) (by decide) rfl hS) (by decide))) (frPM_K y4)) (frPM_I (sR_of (c := 22) (w := 4) (by decide) (by decide) rfl hS) (by decide))) (frPM_K z4)
  rw [EC, EM]
  rcases z5 with ⟨k9, w9, wp9, i9, r9⟩ | ⟨f, j, d1, d2⟩
  · have h13 : τ7.1 0 13 = 0 := r9.2.1.2.2.2.2.2
    rw [if_pos h13]
    refine ⟨σ9, _, rfl, rfl, FC, frPM_trans FM (frPM_I (sR_1 (c := 19) (by decide) (by decide) rfl) (by decide)), Or.inl ?_⟩
    obtain ⟨k8, e8, ⟨k7, w7, wp7, Z, e7, ⟨k6, w6, wp6, e6', ⟨k5, w5, wp5, e5, i5, p3⟩, p2⟩, kz, z6, z7, z8⟩, kx⟩ := i9
    refine ⟨k5, k9, w5, w9, wp5, wp9, x, y, x', y', Z, i5, by omega, ?_, ?_, ?_, ?_, ?_, ?_, ?_⟩
    · exact RdR_e r9 eqC_rfl ⟨rfl, rfl, fun j _ _ _ => uI_ne _ _ (by omega), fun c _ _ => uI_row _ _ (by omega)⟩
    · intro c hc j
      rw [z3.2 c hc, uI_I, uI_I, y3.2 c hc, uI_I, x3.2 c hc, uI_I, n4.2 c hc, z6]
    · rw [z3.1, uI_2, uI_2, y3.1, uI_2, x3.1, uI_2, n4.1]
    · intro c hc j
      rw [uI_I, z4.2.2 c hc, uI_I, y4.2.2 c hc, uI_I, x4.2.2 c hc, uI_I, n5.2.2 c hc, z7]
    · rw [uI_2, z4.1, uI_2, y4.1, uI_2, x4.1, uI_2, n5.1]
    · intro j a1 a2 a3 a4 a5
      rw [uI_row _ _ (by decide)]
      exact a0 j a1 a2 a3 a4 a5
    · intro q
      obtain ⟨q7, l1, l2⟩ := z8 q
      obtain ⟨q6, m, l3, l4, l5⟩ := p2 q7
      obtain ⟨q5, hh, l6, l7, l8⟩ := p3 q6
      exact ⟨q5, by omega, by omega, hh, m, l6, l3, l7, l8, l4, l5⟩
  · rw [if_neg (DdM_pos d2).1]
    exact ⟨σ9, τ7, rfl, rfl, FC, FM, Or.inr ⟨f, j, d1, d2⟩⟩
theorem tellSleep_eq {n t s k : Nat} {b : Nat → Nat} {σ τ : hSt} (hn : n ≤ 2000) (hb : ∀ i, b i < 256) (h : PR n b t s k σ τ) (hK : KK n b k = 140) : OutT n b t s k σ τ (F_X4_parseTell 37 σ) (F_X12_tell 0 τ) := by
  obtain ⟨w, wp, D, F, r, ⟨hs, ⟨hH, hM, hS⟩, ⟨e0, e3, e9⟩, ⟨m19, m11, m14, m19s, m20, m12⟩, c, e, m44, hc, m38, he⟩, hT⟩ := h
  have hP := r.1.1
  have hp3 := r.1.2.1
  have ht := r.1.2.2.1
  have h13 := r.2.1.2.2.2.2.2
  obtain ⟨t1, t2, t3⟩ := t_ok ht
  obtain ⟨hQ, e11, gk, ck, k3⟩ := tellM_head r.2.1
  have g19 : inb (nI s) (kM 19).2 = true := inb_nI (by rw [kM_19]; exact hs) (by decide)
  have EC : F_X4_parseTell 37 σ = (F_X4_parseSleeper 37 σ).bind (fun z => F_X4_parseTell_158 37 z) := by
    unfold F_X4_parseTell
    rw [kindA r.1, hK, Option.bind_some]
    iterate 12 rw [if_neg (by decide)]
    rw [if_pos (show nI 140 = (140 : Int32) from rfl)]
  have EM : F_X12_tell 0 τ = (F_X12_roomFor 0 (nI (tS D)) 4 τ).bind fun σ25 => if σ25.1 0 13 = 0 then (F_X12_tellSleeper 0 σ25).bind (fun σ27 => F_X12_tell_282 σ27) else F_X12_tell_282 σ25 := by
    unfold F_X12_tell cL
    dsimp only
    rw [rM_5 hQ, e11, cG_t gk, ck, k3, hK]
    iterate 11 rw [if_neg (by decide)]
    rw [if_pos (show nI (mkK 140) = 31 from rfl), rM_32 hQ, m19, cG_t g19, cl_nI (by omega), m19s]
  rw [EC, EM]
  by_cases h6 : tS D = 4
  · -- no room
    obtain ⟨σ', g1, g2, g3⟩ := failA (f := 2) r.1 (Or.inr rfl)
    obtain ⟨τ', p1, p2, p3⟩ := room_full (x := nI (tS D)) (y := 4) r.2.1 (by rw [h6]; rfl)
    refine ⟨σ', τ', ?_, ?_, frPC_T g3, frPM_N p3, Or.inr ⟨2, k, g2, p2⟩⟩
    · unfold F_X4_parseSleeper cL
      dsimp only
      rw [r37 hp3 ht, e9, if_neg (show ¬ nI (tS D) < (4 : Int32) by rw [h6]; decide), show F_X4_fail 37 (2 : Int32) σ = F_X4_fail 37 (nI 2) σ from rfl, g1, Option.bind_some, Option.bind_some, tellC_dead g2]
    · rw [p1, Option.bind_some, if_neg (DdM_pos p2).1, tellM_282]
  · have hS' : tS D < 4 := by omega
    obtain ⟨v, σ1, τ1, g1, p1, f1, q1, z⟩ := both_go hb r hK (by decide) (by decide)
    rw [room_go h13 (show ¬ nI (tS D) = (4 : Int32) from fun z => h6 ((nI_eq (b := 4) (by omega) (by decide)).mp z)), p1, Option.bind_some]
    have z0 : σ1.1 t 0 = nI (tH D) := by rw [f1.2.2 t (by omega)]; exact e0
    have z3 : σ1.1 t 3 = nI (tM D) := by rw [f1.2.2 t (by omega)]; exact e3
    have z9 : σ1.1 t 9 = nI (tS D) := by rw [f1.2.2 t (by omega)]; exact e9
    rcases z with r1 | ⟨d1, d2⟩
    · have n19 : τ1.1 0 19 = nI s := by rw [q1.2.1 19 (by decide) (by decide) (by decide)]; exact m19
      have n20 : τ1.1 0 20 = nI (tH D + tM D) := by rw [q1.2.1 20 (by decide) (by decide) (by decide)]; exact m20
      have n19s : τ1.1 19 s = nI (tS D) := by rw [q1.2.2 19 (by decide)]; exact m19s
      have hF : ∀ k' w' wp', (k' = k + 1 ∧ w' = w ∧ wp' = wp) → w' = 0 → NmR (tH D) (tM D) F σ1 τ1 := fun k' w' wp' i q => NmR_fr (hT (by omega)).2.2.2 (by rw [f1.1]) (by rw [q1.1]) (q1.2.2 9 (by decide)) (q1.2.2 10 (by decide))
      obtain ⟨σ', τ', o1, o2, o3, o4, o5⟩ := tellSleep_B (I := fun k' w' wp' => k' = k + 1 ∧ w' = w ∧ wp' = wp) (F := F) hn hb (Or.inl ⟨k + 1, w, wp, ⟨rfl, rfl, rfl⟩, r1⟩) g1 f1 hp3 hs hH hM hS' z0 z3 z9 n19 n19s n20 hF
      rw [o1, r1.2.1.2.2.2.2.2, if_pos rfl, o2, Option.bind_some, tellM_282]
      refine ⟨σ', τ', rfl, rfl, frPC_trans (frPC_T f1) o3, frPM_trans (frPM_N q1) o4, ?_⟩
      rcases o5 with ⟨k0, k', w0, w', wp0, wp', X, Y, X', Y', Z, i0, ek, r', hC, hL, hMm, h8, hj, hw⟩ | d
      · left
        have hC' : ∀ c, c ≠ 37 → ∀ j, σ'.1 c j = if c = t ∧ j = 9 then nI (tS D + 1) else if c = t + 13 ∧ j = tS D then nI Z else if c = t + 12 ∧ j = tS D then X' else if c = t + 11 ∧ j = tS D then X else σ.1 c j := fun c hc j => by rw [hC c hc j, f1.2.2 c hc]
        have hMM : ∀ c, c ≠ 0 → ∀ j, τ'.1 c j = if c = 19 ∧ j = s then nI (tS D + 1) else if c = 22 ∧ j = 4 * s + tS D then nI Z else if c = 21 ∧ j = 4 * s + tS D then Y' else if c = 20 ∧ j = 4 * s + tS D then Y else τ.1 c j := fun c hc j => by rw [hMm c hc j, q1.2.2 c hc]
        have rowC : ∀ c, c ≠ 37 → c ≠ t → c ≠ t + 11 → c ≠ t + 12 → c ≠ t + 13 → σ'.1 c = σ.1 c := fun c a1 a2 a3 a4 a5 => funext fun j => by rw [hC' c a1 j, if_neg (fun q => a2 q.1), if_neg (fun q => a5 q.1), if_neg (fun q => a4 q.1), if_neg (fun q => a3 q.1)]
        have rowM : ∀ c, c ≠ 0 → c ≠ 19 → c ≠ 20 → c ≠ 21 → c ≠ 22 → τ'.1 c = τ.1 c := fun c a1 a2 a3 a4 a5 => funext fun j => by rw [hMM c (by omega) j, if_neg (by omega), if_neg (by omega), if_neg (by omega), if_neg (by omega)]
        have rtj : ∀ j, j ≠ 9 → σ'.1 t j = σ.1 t j := fun j a => by rw [hC' t (by omega) j, if_neg (fun q => a q.2), if_neg (by omega), if_neg (by omega), if_neg (by omega)]
        have r0j : ∀ j, j ≠ 11 → j ≠ 13 → j ≠ 14 → j ≠ 15 → j ≠ 16 → τ'.1 0 j = τ.1 0 j := fun j a1 a2 a3 a4 a5 => by rw [hj j a1 a2 a3 a4 a5, q1.2.1 j a1 a2 a3]
        have FIN : ∀ hh mm : Nat, (w' = 0 → hh < tH D ∧ mm < tM D ∧ X = nI hh ∧ Y = nI hh ∧ X' = nI mm ∧ Y' = nI mm) → ∃ k', k < k' ∧ PR n b t s k' σ' τ' := fun hh mm hxy => by
          refine ⟨k', by omega, w', wp', xD2 (xD2 (xD2 (xD1 D 2 (tS D + 1)) 3 (tS D) hh) 4 (tS D) mm) 5 (tS D) Z, F, r', ⟨hs, ⟨hH, hM, ?_⟩, ⟨?_, ?_, ?_⟩, ⟨?_, ?_, ?_, ?_, ?_, ?_⟩, c, e, ?_, by omega, ?_, by omega⟩, fun q => ?_⟩
          · show tS D + 1 ≤ 4; omega
          · rw [rtj 0 (by decide)]; exact e0
          · rw [rtj 3 (by decide)]; exact e3
          · rw [hC' t (by omega) 9, if_pos ⟨rfl, rfl⟩]; rfl
          · rw [r0j 19 (by decide) (by decide) (by decide) (by decide) (by decide)]; exact m19
          · rw [rowM 11 (by decide) (by decide) (by decide) (by decide) (by decide)]; exact m11
          · rw [rowM 14 (by decide) (by decide) (by decide) (by decide) (by decide)]; exact m14
          · rw [hMM 19 (by decide) s, if_pos ⟨rfl, rfl⟩]; rfl
          · rw [r0j 20 (by decide) (by decide) (by decide) (by decide) (by decide)]; exact m20
          · rw [r0j 12 (by decide) (by decide) (by decide) (by decide) (by decide)]; exact m12
          · rw [r0j 44 (by decide) (by decide) (by decide) (by decide) (by decide)]; exact m44
          · rw [r0j 38 (by decide) (by decide) (by decide) (by decide) (by decide)]; exact m38
          · obtain ⟨q0, hZ0, hZ, -⟩ := hw q
            obtain ⟨hX, hX2, eX, eY, eX', eY'⟩ := hxy q
            obtain ⟨⟨x1, x2, x3, x4, x5, x6, x7, x8, x9⟩, ⟨c1, c2, c3, c4, c5, c6, c7⟩, ⟨y1, y2, y3, y4, y5, y6, y7⟩, nm⟩ := hT (by have := i0.2.1; omega)
            have xA : ∀ i, tA (xD2 (xD2 (xD2 (xD1 D 2 (tS D + 1)) 3 (tS D) hh) 4 (tS D) mm) 5 (tS D) Z) i = if i = tS D then hh else tA D i := fun i => by
              show (if 3 = 5 ∧ i = tS D then Z else if 3 = 4 ∧ i = tS D then mm else if 3 = 3 ∧ i = tS D then hh else tA D i) = _
              by_cases z : i = tS D <;> simp [z]
            have xB : ∀ i, tB (xD2 (xD2 (xD2 (xD1 D 2 (tS D + 1)) 3 (tS D) hh) 4 (tS D) mm) 5 (tS D) Z) i = if i = tS D then mm else tB D i := fun i => by
              show (if 4 = 5 ∧ i = tS D then Z else if 4 = 4 ∧ i = tS D then mm else if 4 = 3 ∧ i = tS D then hh else tB D i) = _
              by_cases z : i = tS D <;> simp [z]
            have xD : ∀ i, tD (xD2 (xD2 (xD2 (xD1 D 2 (tS D + 1)) 3 (tS D) hh) 4 (tS D) mm) 5 (tS D) Z) i = if i = tS D then Z else tD D i := fun i => by
              show (if 5 = 5 ∧ i = tS D then Z else if 5 = 4 ∧ i = tS D then mm else if 5 = 3 ∧ i = tS D then hh else tD D i) = _
              by_cases z : i = tS D <;> simp [z]
            refine ⟨⟨x1, x2, ?_, x4, x5, x6, x7, x8, ?_⟩, ⟨?_, ?_, ?_, ?_, ?_, ?_, ?_⟩, ⟨?_, ?_, ?_, ?_, ?_, ?_, ?_⟩, ?_⟩
            · show tS D + 1 ≤ 4; omega
            · intro i hi
              have hi : i < tS D + 1 := hi
              rw [xA, xB, xD]
              show _ < tH D ∧ _ < tM D ∧ _
              by_cases z : i = tS D
              · rw [if_pos z, if_pos z, if_pos z]; exact ⟨hX, hX2, hZ0, hZ⟩
              · rw [if_neg z, if_neg z, if_neg z]; exact x9 i (by omega)
            · rw [rtj 8 (by decide)]; exact c1
            · exact CX_e c2 rfl rfl rfl (rowC _ (by omega) (by omega) (by omega) (by omega) (by omega)) (rowC _ (by omega) (by omega) (by omega) (by omega) (by omega))
            · exact CH_e c3 rfl rfl (rowC _ (by omega) (by omega) (by omega) (by omega) (by omega))
            · exact CL_e c4 rfl rfl (rowC _ (by omega) (by omega) (by omega) (by omega) (by omega)) (rowC _ (by omega) (by omega) (by omega) (by omega) (by omega))
            · exact CW_e c5 rfl rfl (rowC _ (by omega) (by omega) (by omega) (by omega) (by omega)) (rowC _ (by omega) (by omega) (by omega) (by omega) (by omega))
            · exact CF_e c6 rfl rfl (rowC _ (by omega) (by omega) (by omega) (by omega) (by omega)) (rowC _ (by omega) (by omega) (by omega) (by omega) (by omega))
            · intro i hi
              have hi : i < tS D + 1 := hi
              have a1 : σ'.1 (t + 11) i = if i = tS D then X else σ.1 (t + 11) i := by
                rw [hC' (t + 11) (by omega) i, if_neg (by omega), if_neg (by omega), if_neg (by omega)]
                by_cases z : i = tS D
                · rw [if_pos ⟨rfl, z⟩, if_pos z]
                · rw [if_neg (fun a => z a.2), if_neg z]
              have a2 : σ'.1 (t + 12) i = if i = tS D then X' else σ.1 (t + 12) i := by
                rw [hC' (t + 12) (by omega) i, if_neg (by omega), if_neg (by omega)]
                by_cases z : i = tS D
                · rw [if_pos ⟨rfl, z⟩, if_pos z]
                · rw [if_neg (fun a => z a.2), if_neg (by omega), if_neg z]
              have a3 : σ'.1 (t + 13) i = if i = tS D then nI Z else σ.1 (t + 13) i := by
                rw [hC' (t + 13) (by omega) i, if_neg (by omega)]
                by_cases z : i = tS D
                · rw [if_pos ⟨rfl, z⟩, if_pos z]
                · rw [if_neg (fun a => z a.2), if_neg (by omega), if_neg (by omega), if_neg z]
              rw [xA, xB, xD, a1, a2, a3]
              by_cases z : i = tS D
              · rw [if_pos z, if_pos z, if_pos z, if_pos z, if_pos z, if_pos z]; exact ⟨eX, eX', rfl⟩
              · rw [if_neg z, if_neg z, if_neg z, if_neg z, if_neg z, if_neg z]; exact c7 i (by omega)
            · rw [rowM 18 (by decide) (by decide) (by decide) (by decide) (by decide)]; exact y1
            · exact MX_e y2 rfl rfl rfl (rowM 12 (by decide) (by decide) (by decide) (by decide) (by decide)) (rowM 13 (by decide) (by decide) (by decide) (by decide) (by decide))
            · exact MH_e y3 rfl rfl (rowM 15 (by decide) (by decide) (by decide) (by decide) (by decide))
            · exact ML_e y4 rfl rfl (fun c a _ => rowM c (by omega) (by omega) (by omega) (by omega) (by omega))
            · exact MW_e y5 rfl rfl (rowM 16 (by decide) (by decide) (by decide) (by decide) (by decide)) (rowM 17 (by decide) (by decide) (by decide) (by decide) (by decide))
            · exact MF_e y6 rfl rfl (rowM 16 (by decide) (by decide) (by decide) (by decide) (by decide)) (rowM 17 (by decide) (by decide) (by decide) (by decide) (by decide))
            · intro i hi
              have hi : i < tS D + 1 := hi
              have a1 : τ'.1 20 (4 * s + i) = if i = tS D then Y else τ.1 20 (4 * s + i) := by
                rw [hMM 20 (by decide) _, if_neg (by omega), if_neg (by omega), if_neg (by omega)]
                by_cases z : i = tS D
                · rw [if_pos ⟨rfl, by omega⟩, if_pos z]
                · rw [if_neg (by omega), if_neg z]
              have a2 : τ'.1 21 (4 * s + i) = if i = tS D then Y' else τ.1 21 (4 * s + i) := by
                rw [hMM 21 (by decide) _, if_neg (by omega), if_neg (by omega)]
                by_cases z : i = tS D
                · rw [if_pos ⟨rfl, by omega⟩, if_pos z]
                · rw [if_neg (by omega), if_neg (by omega), if_neg z]
              have a3 : τ'.1 22 (4 * s + i) = if i = tS D then nI Z else τ.1 22 (4 * s + i) := by
                rw [hMM 22 (by decide) _, if_neg (by omega)]
                by_cases z : i = tS D
                · rw [if_pos ⟨rfl, by omega⟩, if_pos z]
                · rw [if_neg (by omega), if_neg (by omega), if_neg (by omega), if_neg z]
              rw [xA, xB, xD, a1, a2, a3]
              by_cases z : i = tS D
              · rw [if_pos z, if_pos z, if_pos z, if_pos z, if_pos z, if_pos z]; exact ⟨eY, eY', rfl⟩
              · rw [if_neg z, if_neg z, if_neg z, if_neg z, if_neg z, if_neg z]; exact y7 i (by omega)
            · exact NmR_fr nm (by rw [hL, f1.1]) (by rw [h8, q1.1]) (rowM 9 (by decide) (by decide) (by decide) (by decide) (by decide)) (rowM 10 (by decide) (by decide) (by decide) (by decide) (by decide))
        by_cases q : w' = 0
        · obtain ⟨-, -, -, hm, mm, u1, u2, u3, u4, u5, u6⟩ := hw q
          exact FIN hm mm (fun _ => ⟨u1, u2, u3, u4, u5, u6⟩)
        · exact FIN 0 0 (fun z => absurd z q)
      · exact Or.inr d
    · obtain ⟨σ', o1, o2, o3⟩ := sleepC_dead g1 d1 hp3 hH hM hS' e9 z0 z3
      rw [o1, Option.bind_some, tellC_dead o2, if_neg (DdM_pos d2).1, tellM_282]
      exact ⟨σ', τ1, rfl, rfl, frPC_trans (frPC_T f1) o3, frPM_N q1, Or.inr ⟨2, k, o2, d2⟩⟩
