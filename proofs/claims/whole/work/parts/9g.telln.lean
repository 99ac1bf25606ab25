/-! ===== PURE 71: a news is told, in both ===== -/
/-- the class's news, behind a stop -/
theorem newsC_dead {n t f j H M : Nat} {b : Nat → Nat} {z σ : hSt} {v : Int64} (hg : F_X4_take 37 (nI 129) σ = some (v, z)) (h : DdC n b t f j z) (hP : σ.2.2 37 3 = some t) (hH : H ≤ 6) (hM : M < 4) (eS : σ.1 t 3 = nI M) (eH : z.1 t 0 = nI H) (eM : z.1 t 3 = nI M) :
    ∃ σ', F_X4_parseNews 37 σ = some σ' ∧ DdC n b t f j σ' ∧ frPC t z σ' := by
  have ht := h.2.2.1
  obtain ⟨t1, t2, t3⟩ := t_ok ht
  have w4 : ∀ a, (kC a).2 = 4 → inb (nI M) (kC a).2 = true := fun a e => inb_nI (by rw [e]; exact hM) (by rw [e]; decide)
  have d1 : DdC n b t f j (uJ z 43 M 0) := DdC_e h ⟨rfl, rfl, rfl, rfl, uJ_row _ _ (by decide)⟩
  obtain ⟨x, hx⟩ := oneD_C (a := 42) (N := H) d1 (by rw [k42]; exact hH) (by rw [k42]; decide)
  have d2 : DdC n b t f j (uI (uJ z 43 M 0) (t + 3) M x) := DdC_e d1 ⟨rfl, uI_row _ _ (by omega), uI_row _ _ (by omega), uI_row _ _ (by omega), rfl⟩
  have E : F_X4_parseNews 37 σ = some (uI (uI (uJ z 43 M 0) (t + 3) M x) t 3 (nI (M + 1))) := by
    unfold F_X4_parseNews cL
    dsimp only
    rw [r37 hP ht, eS, if_pos (show nI M < (4 : Int32) from nI_lt (b := 4) hM (by decide)), show F_X4_take 37 (129 : Int32) σ = F_X4_take 37 (nI 129) σ from rfl, cC_t hg, rC_4_2 h.1 (c := 37) (by decide), cC_t (newD_C h hH (by omega) eH eM), show (37 + 6 : Nat) = 43 from rfl, cG_t (w4 43 k43), cl_nI (by omega), cC_t (takeD d1)]
    rw [r37 d1.2.1 ht, rC_7_4 d1.1 t1, rC_4_1 d1.1 (c := 37) (by decide), r37 d1.2.1 ht, show (37 + 5 : Nat) = 42 from rfl, show (uJ z 43 M 0).1 t 0 = nI H from eH, cC_t hx, cG_t (w4 _ (nC_7_4 t1))]
    rw [r37 d2.2.1 ht, nI_1]
  refine ⟨_, E, DdC_e d2 ⟨rfl, uI_row _ _ (by omega), uI_row _ _ (by omega), uI_row _ _ (by omega), rfl⟩, ?_⟩
  exact frPC_trans (frPC_trans (frPC_J (Or.inr rfl)) (frPC_I (c := t + 3) (by omega))) (frPC_I (c := t) (by omega))
theorem tellNews_B {n t : Nat} {b : Nat → Nat} {σ τ : hSt} {s H M : Nat} {F : Nat → (Nat → Nat) × Nat} {I : Nat → Nat → Nat → Prop} {v0 : Int64} {σ0 : hSt}
    (hn : n ≤ 2000) (hb : ∀ i, b i < 256) (hB : Bth n b t I σ τ) (hg : F_X4_take 37 (nI 129) σ0 = some (v0, σ)) (f0 : frT σ0 σ) (hP0 : σ0.2.2 37 3 = some t)
    (hs : s < 2) (hH : H ≤ 6) (hM : M < 4) (e0 : σ.1 t 0 = nI H) (e3 : σ.1 t 3 = nI M) (m19 : τ.1 0 19 = nI s) (m14 : τ.1 14 s = nI M) (m20 : τ.1 0 20 = nI (H + M)) (hF : ∀ k w wp, I k w wp → w = 0 → NmR H M F σ τ) :
    ∃ σ' τ', (F_X4_parseNews 37 σ0).bind (fun z => F_X4_parseTell_158 37 z) = some σ' ∧ F_X12_tellNews 0 τ = some τ' ∧ frPC t σ σ' ∧ frPM s τ τ' ∧
      ((∃ k0 k' w w' wp wp' p x y, I k0 w wp ∧ k0 + 4 = k' ∧ RdR n b t k' w' wp' σ' τ' ∧
        (∀ c, c ≠ 37 → ∀ j, σ'.1 c j = if c = t ∧ j = 3 then nI (M + 1) else if c = t + 3 ∧ j = M then x else σ.1 c j) ∧
        (∀ j, σ'.2.1 42 j = σ.2.1 42 j) ∧ (∀ j, σ'.2.1 43 j = if j = M then c32 p else σ.2.1 43 j) ∧
        (∀ c, c ≠ 0 → ∀ j, τ'.1 c j = if c = 14 ∧ j = s then nI (M + 1) else if c = 10 ∧ j = H + M then nI M else if c = 9 ∧ j = H + M then 1 else if c = 15 ∧ j = 4 * s + M then y else τ.1 c j) ∧
        (∀ j, τ'.2.1 8 j = if j = H + M then c27 p else τ.2.1 8 j) ∧ τ'.1 0 20 = nI (H + M + 1) ∧ (∀ j, j ≠ 11 → j ≠ 13 → j ≠ 14 → j ≠ 15 → j ≠ 16 → j ≠ 20 → τ'.1 0 j = τ.1 0 j) ∧
        (w' = 0 → w = 0 ∧ vN p ∧ (∀ i, i < H + M → ¬ c27 (F i) = c27 p) ∧ ∃ h, h < H ∧ x = nI h ∧ y = nI h)) ∨ DdR n b t σ' τ') := by
  obtain ⟨hP, hp3, ht, hQ⟩ := Bth_C hB
  obtain ⟨t1, t2, t3⟩ := t_ok ht
  have w4 : ∀ a, (kC a).2 = 4 → inb (nI M) (kC a).2 = true := fun a e => inb_nI (by rw [e]; exact hM) (by rw [e]; decide)
  have eS : σ0.1 t 3 = nI M := by rw [← f0.2.2 t (by omega)]; exact e3
  have e6 : (4 : Int32) * nI s + nI M = nI (4 * s + M) := by rw [show (4 : Int32) = nI 4 from rfl, pk_mul, nI_add]
  have g15 : inb (nI (4 * s + M)) (kM 15).2 = true := inb_nI (by rw [kM_15]; omega) (by decide)
  have g14 : inb (nI s) (kM 14).2 = true := inb_nI (by rw [kM_14]; exact hs) (by decide)
  obtain ⟨v, σ2, τ2, k0, n1, n2, n3, n4, n5, n6⟩ := newB hn hb hB hH (by omega) e0 e3 m20 hF
  have B3 := Bth_e (σ' := uJ σ2 43 M v) (τ' := τ2) n6 ⟨rfl, rfl, rfl, rfl, uJ_row _ _ (by decide)⟩ eqM_rfl
  obtain ⟨va, σ4, τ3, x1, x2, x3, x4, x5⟩ := takeB (x := 130) hb B3 (by decide) (by decide) (by decide)
  have n20 : τ3.1 0 20 = nI (H + M) := by
    rw [x4.2.1 20 (by decide) (by decide) (by decide) (by decide) (by decide), n5.2.1 20 (by decide) (by decide) (by decide) (by decide) (by decide)]
    exact m20
  have q0 : σ4.1 t 0 = nI H := by
    rw [x3.2 t (by omega), uJ_I1, n4.2 t (by omega)]
    exact e0
  -- the names: the new one's cell lies behind all others
  have hF' : ∀ k w wp : Nat, (∃ k1, k = k1 + 1 ∧ (∃ w1 wp1 p, k1 = k0 + 1 ∧ I k0 w1 wp1 ∧ KK n b k0 = 2 ∧ vN p ∧ v = c32 p ∧ τ.2.1 6 k0 = c27 p ∧ (w = 0 → w1 = 0 ∧ ∀ i, i < H + M → ¬ c27 (F i) = c27 p)) ∧ KK n b k1 = 130) → w = 0 → NmR H M F σ4 τ3 := fun k w wp i q => by
    obtain ⟨k1, -, ⟨w1, wp1, p, -, i1, -, -, -, -, i2⟩, -⟩ := i
    obtain ⟨w10, -⟩ := i2 q
    obtain ⟨a1, a2, a3, a4, a5⟩ := hF k0 w1 wp1 i1 w10
    have r42 : σ4.2.1 42 = σ.2.1 42 := by rw [x3.1, uJ_row _ _ (by decide), n4.1]
    have r43 : ∀ j, j < M → σ4.2.1 43 j = σ.2.1 43 j := fun j hj => by rw [x3.1, uJ_J, if_neg (by omega), n4.1]
    refine ⟨?_, a2, ?_, ?_, ?_⟩
    · rw [x4.1, n5.1]; exact a1
    · rw [x4.2.2 9 (by decide), x4.2.2 10 (by decide), n5.2.2 9 (by decide), n5.2.2 10 (by decide), r42]
      intro i hi
      rcases a3 i hi with z | ⟨z1, m, z2, z3, z4⟩
      · exact Or.inl z
      · exact Or.inr ⟨z1, m, z2, z3, by rw [r43 m z2]; exact z4⟩
    · rw [x4.2.2 9 (by decide), x4.2.2 10 (by decide), n5.2.2 9 (by decide), n5.2.2 10 (by decide)]; exact a4
    · rw [x4.2.2 9 (by decide), x4.2.2 10 (by decide), n5.2.2 9 (by decide), n5.2.2 10 (by decide)]; exact a5
  obtain ⟨x, y, σ6, τ5, y1, y2, y3, y4, y5⟩ := hillB (H := H) (M := M) (F := F) hn hb x5 hH (by omega) n20 hF'
  have B7 := Bth_e (σ' := uI (uI σ6 (t + 3) M x) t 3 (nI (M + 1))) (τ' := uI τ5 15 (4 * s + M) y) y5 ⟨rfl, by rw [uI_row _ _ (by omega), uI_row _ _ (by omega)], by rw [uI_row _ _ (by omega), uI_row _ _ (by omega)], by rw [uI_row _ _ (by omega), uI_row _ _ (by omega)], rfl⟩ ⟨rfl, rfl, fun j _ _ _ => uI_ne _ _ (by omega), fun c _ _ => uI_row _ _ (by omega)⟩
  obtain ⟨v9, σ9, τ7, z1, z2, z3, z4, z5⟩ := takeB (x := 59) hb B7 (by decide) (by decide) (by decide)
  obtain ⟨P3, Q3, -, R3⟩ := Bth_C B3
  obtain ⟨P5, Q5, -, R5⟩ := Bth_C x5
  obtain ⟨P6, Q6, -, R6⟩ := Bth_C y5
  obtain ⟨P9, Q9, -, R9⟩ := Bth_C z5
  have EC : (F_X4_parseNews 37 σ0).bind (fun z => F_X4_parseTell_158 37 z) = some σ9 := by
    have E : F_X4_parseNews 37 σ0 = some (uI (uI σ6 (t + 3) M x) t 3 (nI (M + 1))) := by
      unfold F_X4_parseNews cL
      dsimp only
      rw [r37 hP0 ht, eS, if_pos (show nI M < (4 : Int32) from nI_lt (b := 4) hM (by decide)), show F_X4_take 37 (129 : Int32) σ0 = F_X4_take 37 (nI 129) σ0 from rfl, cC_t hg, rC_4_2 hP (c := 37) (by decide), cC_t n1, show (37 + 6 : Nat) = 43 from rfl, cG_t (w4 43 k43), cl_nI (by omega), show F_X4_take 37 (130 : Int32) (uJ σ2 43 M v) = F_X4_take 37 (nI 130) (uJ σ2 43 M v) from rfl, cC_t x1]
      rw [r37 Q5 ht, rC_7_4 P5 t1, rC_4_1 P5 (c := 37) (by decide), r37 Q5 ht, show (37 + 5 : Nat) = 42 from rfl, q0, cC_t y1, cG_t (w4 _ (nC_7_4 t1))]
      rw [r37 (show (uI σ6 (t + 3) M x).2.2 37 3 = some t from Q6) ht, nI_1]
    rw [E, Option.bind_some, tellC_take z1]
  have a19 : τ7.1 0 19 = nI s := by
    rw [z4.2.1 19 (by decide) (by decide) (by decide) (by decide) (by decide), uI_row _ _ (by decide), y4.2.1 19 (by decide) (by decide) (by decide) (by decide) (by decide), x4.2.1 19 (by decide) (by decide) (by decide) (by decide) (by decide), n5.2.1 19 (by decide) (by decide) (by decide) (by decide) (by decide)]
    exact m19
  have a14 : τ7.1 14 s = nI M := by
    rw [z4.2.2 14 (by decide), uI_row _ _ (by decide), y4.2.2 14 (by decide), x4.2.2 14 (by decide), n5.2.2 14 (by decide)]
    exact m14
  have a20 : τ7.1 0 20 = nI (H + M) := by
    rw [z4.2.1 20 (by decide) (by decide) (by decide) (by decide) (by decide), uI_row _ _ (by decide), y4.2.1 20 (by decide) (by decide) (by decide) (by decide) (by decide)]
    exact n20
  have EM : F_X12_tellNews 0 τ = (if τ7.1 0 13 ≤ 0 then some (uI (uI (uI (uI (uJ τ7 8 (H + M) (τ7.2.1 6 k0)) 9 (H + M) 1) 10 (H + M) (nI M)) 0 20 (nI (H + M + 1))) 14 s (nI (M + 1))) else some τ7) := by
    unfold F_X12_tellNews cL
    dsimp only
    rw [rM_27 hQ, m19, cG_t g14, cl_nI (by omega), m14, e6, cC_t n2, show F_X12_must 0 (22 : Int32) τ2 = F_X12_must 0 (nI (mkK 130)) τ2 from rfl, x2, Option.bind_some, rM_28 R5, show F_X12_known 0 (0 : Int32) τ3 = F_X12_known 0 (nI 0) τ3 from rfl, cC_t y2, cG_t g15, cl_nI (by omega)]
    rw [show F_X12_must 0 (4 : Int32) (uI τ5 15 (4 * s + M) y) = F_X12_must 0 (nI (mkK 59)) (uI τ5 15 (4 * s + M) y) from rfl, z2, Option.bind_some]
    by_cases q : τ7.1 0 13 ≤ 0
    · rw [if_pos q, if_pos q, rM_27 R9, a19, cG_t g14, cl_nI (by omega), a14]
      rw [notesM R9 n3 (by omega) a20, Option.bind_some]
      rw [rM_27 (show HM (uI (uI (uI (uJ τ7 8 (H + M) (τ7.2.1 6 k0)) 9 (H + M) 1) 10 (H + M) (nI M)) 0 20 (nI (H + M + 1))).2.2 from R9)]
      have b19 : (uI (uI (uI (uJ τ7 8 (H + M) (τ7.2.1 6 k0)) 9 (H + M) 1) 10 (H + M) (nI M)) 0 20 (nI (H + M + 1))).1 0 19 = nI s := by
        rw [uI_ne _ _ (by omega), uI_row _ _ (by decide), uI_row _ _ (by decide)]
        exact a19
      have b14 : (uI (uI (uI (uJ τ7 8 (H + M) (τ7.2.1 6 k0)) 9 (H + M) 1) 10 (H + M) (nI M)) 0 20 (nI (H + M + 1))).1 14 s = nI M := by
        rw [uI_row _ _ (by decide), uI_row _ _ (by decide), uI_row _ _ (by decide)]
        exact a14
      rw [b19, cG_t g14, cG_t g14, cl_nI (by omega), b14, nI_1]
    · rw [if_neg q, if_neg q]
  have FC : frPC t σ σ9 := frPC_trans (frPC_trans (frPC_trans (frPC_trans (frPC_trans (frPC_trans (frPC_K n4) (frPC_J (Or.inr rfl))) (frPC_K x3)) (frPC_K y3)) (frPC_I (c := t + 3) (by omega))) (frPC_I (c := t) (by omega))) (frPC_K z3)
  have FM : frPM s τ τ7 := frPM_trans (frPM_trans (frPM_trans (frPM_trans (frPM_K n5) (frPM_K x4)) (frPM_K y4)) (frPM_I (sR_of (c := 15) (w := 4) (by decide) (by decide) rfl hM) (by decide))) (frPM_K z4)
  rw [EC, EM]
  rcases z5 with ⟨k9, w9, wp9, i9, r9⟩ | ⟨f, j, d1, d2⟩
  · have h13 : τ7.1 0 13 = 0 := r9.2.1.2.2.2.2.2
    rw [h13, if_pos (show (0 : Int32) ≤ 0 by decide)]
    refine ⟨σ9, _, rfl, rfl, FC, frPM_trans FM ?_, Or.inl ?_⟩
    · exact frPM_trans (frPM_trans (frPM_trans (frPM_trans frPM_J (frPM_I (c := 9) (Or.inl rfl) (by decide))) (frPM_I (c := 10) (Or.inr (Or.inl rfl)) (by decide))) (frPM_F (j := 20) (by unfold sF; omega))) (frPM_I (sR_1 (c := 14) (by decide) (by decide) rfl) (by decide))
    · obtain ⟨k8, e8, ⟨k7, w7, wp7, e7, ⟨k6, e6', ⟨w5, wp5, p, e5, i5, kk2, p1, p2, p3, p4⟩, kx⟩, iy3⟩, kz⟩ := i9
      have n8 : τ7.2.1 6 k0 = c27 p := by
        rw [z4.1, uI_J, y4.1, x4.1, n5.1]
        exact p3
      refine ⟨k0, k9, w5, w9, wp5, wp9, p, x, y, i5, by omega, ?_, ?_, ?_, ?_, ?_, ?_, ?_, ?_, ?_⟩
      · refine RdR_e r9 eqC_rfl ⟨rfl, ?_, fun j a1 a2 a3 => ?_, fun c a1 a2 => ?_⟩
        · rw [uI_J, uI_J, uI_J, uI_J, uJ_row _ _ (by decide)]
        · rw [uI_row _ _ (by decide), uI_ne _ _ (by omega), uI_row _ _ (by decide), uI_row _ _ (by decide)]
          rfl
        · rw [uI_row _ _ (by omega), uI_row _ _ (by omega), uI_row _ _ (by omega), uI_row _ _ (by omega)]
          rfl
      · intro c hc j
        rw [z3.2 c hc, uI_I, uI_I, y3.2 c hc, x3.2 c hc, uJ_I1, n4.2 c hc]
      · intro j
        rw [z3.1, uI_J, uI_J, y3.1, x3.1, uJ_row _ _ (by decide), n4.1]
      · intro j
        rw [z3.1, uI_J, uI_J, y3.1, x3.1, uJ_J, n4.1, p2]
        by_cases q : j = M
        · rw [if_pos ⟨rfl, q⟩, if_pos q]
        · rw [if_neg (fun a => q a.2), if_neg q]
      · intro c hc j
        rw [uI_I, uI_row _ _ hc, uI_I, uI_I, uJ_I1, z4.2.2 c hc, uI_I, y4.2.2 c hc, x4.2.2 c hc, n5.2.2 c hc]
      · intro j
        rw [uI_J, uI_J, uI_J, uI_J, uJ_J, n8, z4.1, uI_J, y4.1, x4.1, n5.1]
        by_cases q : j = H + M
        · rw [if_pos ⟨rfl, q⟩, if_pos q]
        · rw [if_neg (fun a => q a.2), if_neg q]
      · rw [uI_row _ _ (by decide), uI_I, if_pos ⟨rfl, rfl⟩]
      · intro j a1 a2 a3 a4 a5 a6
        rw [uI_row _ _ (by decide), uI_ne _ _ (by omega), uI_row _ _ (by decide), uI_row _ _ (by decide), uJ_I1, z4.2.1 j a1 a2 a3 a4 a5, uI_row _ _ (by decide), y4.2.1 j a1 a2 a3 a4 a5, x4.2.1 j a1 a2 a3 a4 a5, n5.2.1 j a1 a2 a3 a4 a5]
      · intro q
        obtain ⟨q7, l1⟩ := iy3 q
        obtain ⟨q5, l5⟩ := p4 q7
        exact ⟨q5, p1, l5, l1⟩
  · rw [if_neg (DdM_pos d2).2.1]
    exact ⟨σ9, τ7, rfl, rfl, FC, FM, Or.inr ⟨f, j, d1, d2⟩⟩
theorem tellNews_eq {n t s k : Nat} {b : Nat → Nat} {σ τ : hSt} (hn : n ≤ 2000) (hb : ∀ i, b i < 256) (h : PR n b t s k σ τ) (hK : KK n b k = 129) : OutT n b t s k σ τ (F_X4_parseTell 37 σ) (F_X12_tell 0 τ) := by
  obtain ⟨w, wp, D, F, r, ⟨hs, ⟨hH, hM, hS⟩, ⟨e0, e3, e9⟩, ⟨m19, m11, m14, m19s, m20, m12⟩, c, e, m44, hc, m38, he⟩, hT⟩ := h
  have hP := r.1.1
  have hp3 := r.1.2.1
  have ht := r.1.2.2.1
  have h13 := r.2.1.2.2.2.2.2
  obtain ⟨t1, t2, t3⟩ := t_ok ht
  obtain ⟨hQ, e11, gk, ck, k3⟩ := tellM_head r.2.1
  have g14 : inb (nI s) (kM 14).2 = true := inb_nI (by rw [kM_14]; exact hs) (by decide)
  have EC : F_X4_parseTell 37 σ = (F_X4_parseNews 37 σ).bind (fun z => F_X4_parseTell_158 37 z) := by
    unfold F_X4_parseTell
    rw [kindA r.1, hK, Option.bind_some, if_neg (show ¬ nI 129 = (128 : Int32) by decide), if_pos (show nI 129 = (129 : Int32) from rfl)]
  have EM : F_X12_tell 0 τ = (F_X12_roomFor 0 (nI (tM D)) 4 τ).bind fun σ25 => if σ25.1 0 13 = 0 then (F_X12_tellNews 0 σ25).bind (fun σ27 => F_X12_tell_282 σ27) else F_X12_tell_282 σ25 := by
    unfold F_X12_tell cL
    dsimp only
    rw [rM_5 hQ, e11, cG_t gk, ck, k3, hK, if_neg (show ¬ nI (mkK 129) = 20 by decide), if_pos (show nI (mkK 129) = 21 from rfl), rM_27 hQ, m19, cG_t g14, cl_nI (by omega), m14]
  rw [EC, EM]
  by_cases h6 : tM D = 4
  · -- no room
    obtain ⟨σ', g1, g2, g3⟩ := failA (f := 2) r.1 (Or.inr rfl)
    obtain ⟨τ', p1, p2, p3⟩ := room_full (x := nI (tM D)) (y := 4) r.2.1 (by rw [h6]; rfl)
    refine ⟨σ', τ', ?_, ?_, frPC_T g3, frPM_N p3, Or.inr ⟨2, k, g2, p2⟩⟩
    · unfold F_X4_parseNews cL
      dsimp only
      rw [r37 hp3 ht, e3, if_neg (show ¬ nI (tM D) < (4 : Int32) by rw [h6]; decide), show F_X4_fail 37 (2 : Int32) σ = F_X4_fail 37 (nI 2) σ from rfl, g1, Option.bind_some, Option.bind_some, tellC_dead g2]
    · rw [p1, Option.bind_some, if_neg (DdM_pos p2).1, tellM_282]
  · have hM' : tM D < 4 := by omega
    obtain ⟨v, σ1, τ1, g1, p1, f1, q1, z⟩ := both_go hb r hK (by decide) (by decide)
    rw [room_go h13 (show ¬ nI (tM D) = (4 : Int32) from fun z => h6 ((nI_eq (b := 4) (by omega) (by decide)).mp z)), p1, Option.bind_some]
    have z0 : σ1.1 t 0 = nI (tH D) := by rw [f1.2.2 t (by omega)]; exact e0
    have z3 : σ1.1 t 3 = nI (tM D) := by rw [f1.2.2 t (by omega)]; exact e3
    rcases z with r1 | ⟨d1, d2⟩
    · have n19 : τ1.1 0 19 = nI s := by rw [q1.2.1 19 (by decide) (by decide) (by decide)]; exact m19
      have n20 : τ1.1 0 20 = nI (tH D + tM D) := by rw [q1.2.1 20 (by decide) (by decide) (by decide)]; exact m20
      have n14 : τ1.1 14 s = nI (tM D) := by rw [q1.2.2 14 (by decide)]; exact m14
      have hF : ∀ k' w' wp', (k' = k + 1 ∧ w' = w ∧ wp' = wp) → w' = 0 → NmR (tH D) (tM D) F σ1 τ1 := fun k' w' wp' i q => NmR_fr (hT (by omega)).2.2.2 (by rw [f1.1]) (by rw [q1.1]) (q1.2.2 9 (by decide)) (q1.2.2 10 (by decide))
      obtain ⟨σ', τ', o1, o2, o3, o4, o5⟩ := tellNews_B (I := fun k' w' wp' => k' = k + 1 ∧ w' = w ∧ wp' = wp) (F := F) hn hb (Or.inl ⟨k + 1, w, wp, ⟨rfl, rfl, rfl⟩, r1⟩) g1 f1 hp3 hs hH hM' z0 z3 n19 n14 n20 hF
      rw [o1, r1.2.1.2.2.2.2.2, if_pos rfl, o2, Option.bind_some, tellM_282]
      refine ⟨σ', τ', rfl, rfl, frPC_trans (frPC_T f1) o3, frPM_trans (frPM_N q1) o4, ?_⟩
      rcases o5 with ⟨k0, k', w0, w', wp0, wp', p, X, Y, i0, ek, r', hC, h42, h43, hMm, h8, h20, hj, hw⟩ | d
      · left
        have hC' : ∀ c, c ≠ 37 → ∀ j, σ'.1 c j = if c = t ∧ j = 3 then nI (tM D + 1) else if c = t + 3 ∧ j = tM D then X else σ.1 c j := fun c hc j => by rw [hC c hc j, f1.2.2 c hc]
        have hMM : ∀ c, c ≠ 0 → ∀ j, τ'.1 c j = if c = 14 ∧ j = s then nI (tM D + 1) else if c = 10 ∧ j = tH D + tM D then nI (tM D) else if c = 9 ∧ j = tH D + tM D then 1 else if c = 15 ∧ j = 4 * s + tM D then Y else τ.1 c j := fun c hc j => by rw [hMm c hc j, q1.2.2 c hc]
        have rowC : ∀ c, c ≠ 37 → c ≠ t → c ≠ t + 3 → σ'.1 c = σ.1 c := fun c a1 a2 a3 => funext fun j => by rw [hC' c a1 j, if_neg (fun q => a2 q.1), if_neg (fun q => a3 q.1)]
        have rowM : ∀ c, 11 ≤ c → c ≠ 14 → c ≠ 15 → τ'.1 c = τ.1 c := fun c a1 a2 a3 => funext fun j => by rw [hMM c (by omega) j, if_neg (by omega), if_neg (by omega), if_neg (by omega), if_neg (by omega)]
        have rtj : ∀ j, j ≠ 3 → σ'.1 t j = σ.1 t j := fun j a => by rw [hC' t (by omega) j, if_neg (fun q => a q.2), if_neg (by omega)]
        have r0j : ∀ j, j ≠ 11 → j ≠ 13 → j ≠ 14 → j ≠ 15 → j ≠ 16 → j ≠ 20 → τ'.1 0 j = τ.1 0 j := fun j a1 a2 a3 a4 a5 a6 => by rw [hj j a1 a2 a3 a4 a5 a6, q1.2.1 j a1 a2 a3]
        have FIN : ∀ hm : Nat, (w' = 0 → hm < tH D ∧ X = nI hm ∧ Y = nI hm) → ∃ k', k < k' ∧ PR n b t s k' σ' τ' := fun hm hxy => by
          refine ⟨k', by omega, w', wp', xD2 (xD1 D 1 (tM D + 1)) 2 (tM D) hm, addF F (tH D + tM D) p, r', ⟨hs, ⟨hH, ?_, hS⟩, ⟨?_, ?_, ?_⟩, ⟨?_, ?_, ?_, ?_, ?_, ?_⟩, c, e, ?_, by omega, ?_, by omega⟩, fun q => ?_⟩
          · show tM D + 1 ≤ 4; omega
          · rw [rtj 0 (by decide)]; exact e0
          · rw [hC' t (by omega) 3, if_pos ⟨rfl, rfl⟩]; rfl
          · rw [rtj 9 (by decide)]; exact e9
          · rw [r0j 19 (by decide) (by decide) (by decide) (by decide) (by decide) (by decide)]; exact m19
          · rw [rowM 11 (by decide) (by decide) (by decide)]; exact m11
          · rw [hMM 14 (by decide) s, if_pos ⟨rfl, rfl⟩]; rfl
          · rw [rowM 19 (by decide) (by decide) (by decide)]; exact m19s
          · rw [h20]; show nI (tH D + tM D + 1) = nI (tH D + (tM D + 1)); rw [Nat.add_assoc]
          · rw [r0j 12 (by decide) (by decide) (by decide) (by decide) (by decide) (by decide)]; exact m12
          · rw [r0j 44 (by decide) (by decide) (by decide) (by decide) (by decide) (by decide)]; exact m44
          · rw [r0j 38 (by decide) (by decide) (by decide) (by decide) (by decide) (by decide)]; exact m38
          · obtain ⟨q0, vp, nn, -⟩ := hw q
            obtain ⟨hX, eX, eY⟩ := hxy q
            obtain ⟨⟨x1, x2, x3, x4, x5, x6, x7, x8, x9⟩, ⟨c1, c2, c3, c4, c5, c6, c7⟩, ⟨y1, y2, y3, y4, y5, y6, y7⟩, nm⟩ := hT (by have := i0.2.1; omega)
            have xX : ∀ i, tHm (xD2 (xD1 D 1 (tM D + 1)) 2 (tM D) hm) i = if i = tM D then hm else tHm D i := fun i => by
              show (if 2 = 2 ∧ i = tM D then hm else tHm D i) = _
              by_cases z : i = tM D <;> simp [z]
            refine ⟨⟨x1, ?_, x3, x4, x5, x6, x7, ?_, ?_⟩, ⟨?_, ?_, ?_, ?_, ?_, ?_, ?_⟩, ⟨?_, ?_, ?_, ?_, ?_, ?_, ?_⟩, ?_⟩
            · show tM D + 1 ≤ 4; omega
            · intro i hi
              have hi : i < tM D + 1 := hi
              show _ < tH D
              rw [xX]
              by_cases z : i = tM D
              · rw [if_pos z]; exact hX
              · rw [if_neg z]; exact x8 i (by omega)
            · intro i hi
              obtain ⟨u1, u2, u3⟩ := x9 i hi
              exact ⟨u1, show tB D i < tM D + 1 by omega, u3⟩
            · rw [rtj 8 (by decide)]; exact c1
            · exact CX_e c2 rfl rfl rfl (rowC _ (by omega) (by omega) (by omega)) (rowC _ (by omega) (by omega) (by omega))
            · intro i hi
              have hi : i < tM D + 1 := hi
              have a1 : σ'.1 (t + 3) i = if i = tM D then X else σ.1 (t + 3) i := by
                rw [hC' (t + 3) (by omega) i, if_neg (by omega)]
                by_cases z : i = tM D
                · rw [if_pos ⟨rfl, z⟩, if_pos z]
                · rw [if_neg (fun a => z a.2), if_neg z]
              rw [xX, a1]
              by_cases z : i = tM D
              · rw [if_pos z, if_pos z]; exact eX
              · rw [if_neg z, if_neg z]; exact c3 i (by omega)
            · exact CL_e c4 rfl rfl (rowC _ (by omega) (by omega) (by omega)) (rowC _ (by omega) (by omega) (by omega))
            · exact CW_e c5 rfl rfl (rowC _ (by omega) (by omega) (by omega)) (rowC _ (by omega) (by omega) (by omega))
            · exact CF_e c6 rfl rfl (rowC _ (by omega) (by omega) (by omega)) (rowC _ (by omega) (by omega) (by omega))
            · exact CSl_e c7 rfl rfl rfl rfl (rowC _ (by omega) (by omega) (by omega)) (rowC _ (by omega) (by omega) (by omega)) (rowC _ (by omega) (by omega) (by omega))
            · rw [rowM 18 (by decide) (by decide) (by decide)]; exact y1
            · exact MX_e y2 rfl rfl rfl (rowM 12 (by decide) (by decide) (by decide)) (rowM 13 (by decide) (by decide) (by decide))
            · intro i hi
              have hi : i < tM D + 1 := hi
              have a1 : τ'.1 15 (4 * s + i) = if i = tM D then Y else τ.1 15 (4 * s + i) := by
                rw [hMM 15 (by decide) _, if_neg (by omega), if_neg (by omega), if_neg (by omega)]
                by_cases z : i = tM D
                · rw [if_pos ⟨rfl, by omega⟩, if_pos z]
                · rw [if_neg (by omega), if_neg z]
              rw [xX, a1]
              by_cases z : i = tM D
              · rw [if_pos z, if_pos z]; exact eY
              · rw [if_neg z, if_neg z]; exact y3 i (by omega)
            · exact ML_e y4 rfl rfl (fun c a _ => rowM c (by omega) (by omega) (by omega))
            · exact MW_e y5 rfl rfl (rowM 16 (by decide) (by decide) (by decide)) (rowM 17 (by decide) (by decide) (by decide))
            · exact MF_e y6 rfl rfl (rowM 16 (by decide) (by decide) (by decide)) (rowM 17 (by decide) (by decide) (by decide))
            · exact MS_e y7 rfl rfl rfl rfl (rowM 20 (by decide) (by decide) (by decide)) (rowM 21 (by decide) (by decide) (by decide)) (rowM 22 (by decide) (by decide) (by decide))
            · show NmR (tH D) (tM D + 1) (addF F (tH D + tM D) p) σ' τ'
              exact NmR_addM nm vp nn (fun j => by rw [h42 j, f1.1]) (fun j => by rw [h43 j, f1.1]) (fun j => by rw [h8 j, q1.1]) (fun j => by rw [hMM 9 (by decide) j, if_neg (by omega), if_neg (by omega)]; by_cases z : j = tH D + tM D <;> simp [z]) (fun j => by rw [hMM 10 (by decide) j, if_neg (by omega)]; by_cases z : j = tH D + tM D <;> simp [z])
        by_cases q : w' = 0
        · obtain ⟨-, -, -, hm, u1, u2, u3⟩ := hw q
          exact FIN hm (fun _ => ⟨u1, u2, u3⟩)
        · exact FIN 0 (fun z => absurd z q)
      · exact Or.inr d
    · obtain ⟨σ', o1, o2, o3⟩ := newsC_dead g1 d1 hp3 hH hM' e3 z0 z3
      rw [o1, Option.bind_some, tellC_dead o2, if_neg (DdM_pos d2).1, tellM_282]
      exact ⟨σ', τ1, rfl, rfl, frPC_trans (frPC_T f1) o3, frPM_N q1, Or.inr ⟨2, k, o2, d2⟩⟩
