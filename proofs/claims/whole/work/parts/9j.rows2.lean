/-! ===== PURE 74: the tells of wind, fog and order ===== -/
def xD3 (D : TxD) (r : Nat) (W : Nat → Nat) : TxD := (D.1, (fun a => if a = r then W else D.2.1 a), D.2.2)
theorem frPC_R {t a : Nat} {s s' : hSt} (ha : a = t + 7 ∨ a = t + 9) (h : frR a s s') : frPC t s s' := ⟨by rw [h.1], fun c _ _ => by rw [h.1], fun c p q => h.2 c p (by omega) (by omega)⟩
theorem frPM_R {s kk : Nat} {τ τ' : hSt} (hk : kk = 2 * s ∨ kk = 2 * s + 1) (h : frRM kk τ τ') : frPM s τ τ' := by
  refine ⟨by rw [h.1], fun c _ => by rw [h.1], fun j a => h.2.1 j (fun e => a (by unfold sF; omega)) (fun e => a (by unfold sF; omega)) (fun e => a (by unfold sF; omega)) (fun e => a (by unfold sF; omega)) (fun e => a (by unfold sF; omega)), fun c i a d => ?_⟩
  by_cases q : c = 17
  · subst q
    refine h.2.2.2 i (fun e => d ?_)
    exact Or.inr (Or.inr (Or.inr ⟨by decide, by decide, by show 24 * s ≤ i; omega, by show i < 24 * s + 24; omega⟩))
  · rw [h.2.2.1 c a q]
/-- a row of numbers, its head's word still there -/
theorem tellRow {n t s k w wp wd a kk : Nat} {b : Nat → Nat} {σ τ : hSt} (hn : n ≤ 2000) (hb : ∀ i, b i < 256) (r : RdR n b t k w wp σ τ) (hK : KK n b k = wd) (h0 : wd ≠ 0) (h2 : wd < 256) (ha : (a = t + 7 ∨ a = t + 9) ∧ okr kC NC 5 a = true) (hk : kk = 2 * s ∨ kk = 2 * s + 1) (hs : s < 2) :
    ∃ σ' τ', (F_X4_parseRow 37 (nI wd) a σ).bind (fun z => F_X4_parseTell_158 37 z) = some σ' ∧ ((F_X12_goesOn 0 τ).bind fun z => (F_X12_tellWeather 0 (nI kk) z).bind fun y => F_X12_tell_282 y) = some τ' ∧ frPC t σ σ' ∧ frPM s τ τ' ∧
      ((∃ (k' w' wp' i : Nat) (W : Nat → Nat), i ≤ 12 ∧ k < k' ∧ (w' = 0 → w = 0) ∧ RdR n b t k' w' wp' σ' τ' ∧ σ'.2 = σ.2 ∧ τ'.2 = τ.2 ∧ (∀ c, c ≠ 37 → c ≠ a → c ≠ a + 1 → σ'.1 c = σ.1 c) ∧ (∀ c, c ≠ 0 → c ≠ 16 → c ≠ 17 → τ'.1 c = τ.1 c) ∧ (∀ j, j ≠ 11 → j ≠ 13 → j ≠ 14 → j ≠ 15 → j ≠ 16 → τ'.1 0 j = τ.1 0 j) ∧
        σ'.1 a 1 = nI i ∧ τ'.1 16 kk = nI i ∧ (∀ j, j ≠ kk → τ'.1 16 j = τ.1 16 j) ∧ (∀ j, j < i → σ'.1 (a + 1) j = nI (W j) ∧ τ'.1 17 (12 * kk + j) = nI (W j)) ∧ ∀ j, ¬ (12 * kk ≤ j ∧ j < 12 * kk + 12) → τ'.1 17 j = τ.1 17 j) ∨ DdR n b t σ' τ') := by
  have ht := r.1.2.2.1
  obtain ⟨t1, t2, t3⟩ := t_ok ht
  have hkk : kk < 4 := by omega
  have hat : t ≤ a ∧ a < t + 14 := by omega
  have ha37 : a ≠ 37 ∧ a + 1 ≠ 37 := by omega
  have s16 : sR s 16 kk := Or.inr (Or.inr (Or.inr ⟨by decide, by decide, by show 2 * s ≤ kk; omega, by show kk < 2 * s + 2; omega⟩))
  obtain ⟨v, σ1, τ1, g1, p1, f1, q1, z⟩ := both_go hb r hK h0 h2
  rw [p1, Option.bind_some]
  have EC : F_X4_parseRow 37 (nI wd) a σ = lp (S_X4_parseRow_13 37 a) fuel (nI 0, uI σ1 a 1 0) := by
    unfold F_X4_parseRow cL
    rw [cC_t g1]
    rfl
  have EM : F_X12_tellWeather 0 (nI kk) τ1 = lp (S_X12_tellWeather_2 0 (nI kk)) fuel (nI 0, τ1) := rfl
  rw [EC, EM]
  rcases z with r1 | ⟨d1, d2⟩
  · have r2 : RdR n b t (k + 1) w wp (uI σ1 a 1 0) τ1 := RdR_e r1 ⟨rfl, uI_row _ _ (by omega), uI_row _ _ (by omega), uI_row _ _ (by omega), rfl⟩ eqM_rfl
    obtain ⟨σ3, τ3, o1, o2, o3, o4⟩ := rowLoop hn hb ha hkk 12 0 rfl _ _ (k + 1) w wp (fun _ => 0) r2 (by rw [uI_I, if_pos ⟨rfl, rfl⟩]; rfl) (fun j hj => absurd hj (by omega))
    rw [o1 fuel (by rw [fuel_v]; omega), o2 fuel (by rw [fuel_v]; omega), Option.bind_some, Option.bind_some, tellM_282]
    have fC : frPC t σ σ3 := frPC_trans (frPC_trans (frPC_T f1) (frPC_I (c := a) hat)) (frPC_R ha.1 o3)
    rcases o4 with ⟨τ2, k', w', wp', i, W, i1, i2, i3, i4, r4, f4, i5, i6⟩ | ⟨τ2, e, f4, d⟩
    · obtain ⟨v9, σ5, τ5, y1, y2, y3, y4, y5⟩ := both_take (x := 59) hb r4 (by decide) (by decide) (by decide)
      have hQ5 : HM τ5.2.2 := by rw [y4.1]; exact r4.2.1.1
      have e60 : F_X12_tellWeather_60 0 (nI kk) (nI i) τ2 = some (uI τ5 16 kk (nI i)) := row60 (v := 0) hkk hQ5 y2
      have et : τ3 = uI τ5 16 kk (nI i) := Option.some.inj (i4.symm.trans e60)
      subst et
      rw [tellC_take y1]
      refine ⟨σ5, _, rfl, rfl, frPC_trans fC (frPC_T y3), frPM_trans (frPM_N q1) (frPM_trans (frPM_R hk f4) (frPM_trans (frPM_N y4) (frPM_I s16 (by decide)))), ?_⟩
      rcases y5 with ⟨y6, y7, y8⟩ | ⟨f, j, d1, d2⟩
      · left
        refine ⟨k' + 1, w', wp', i, W, i1, by omega, i3, RdR_e y8 eqC_rfl ⟨rfl, rfl, fun j _ _ _ => uI_ne _ _ (by omega), fun c _ _ => uI_row _ _ (by omega)⟩, ?_, ?_, fun c p q s => ?_, fun c p q s => ?_, fun j p1 p2 p3 p4 p5 => ?_, ?_, ?_, fun j p => ?_, fun j p => ?_, fun j p => ?_⟩
        · rw [y3.1, o3.1, uI_2, f1.1]
        · rw [uI_2, y4.1, f4.1, q1.1]
        · rw [y3.2.2 c p, o3.2 c p q s, uI_row _ _ q, f1.2.2 c p]
        · rw [uI_row _ _ q, y4.2.2 c p, f4.2.2.1 c p s, q1.2.2 c p]
        · rw [uI_row _ _ (by decide), y4.2.1 j p1 p2 p3, f4.2.1 j p1 p2 p3 p4 p5, q1.2.1 j p1 p2 p3]
        · rw [y3.2.2 a ha37.1]; exact i5
        · rw [uI_I, if_pos ⟨rfl, rfl⟩]
        · rw [uI_ne _ _ (fun e => p e.2), y4.2.2 16 (by decide), f4.2.2.1 16 (by decide) (by decide), q1.2.2 16 (by decide)]
        · rw [y3.2.2 (a + 1) ha37.2, uI_row _ _ (by decide), y4.2.2 17 (by decide)]; exact i6 j p
        · rw [uI_row _ _ (by decide), y4.2.2 17 (by decide), f4.2.2.2 j p, q1.2.2 17 (by decide)]
      · exact Or.inr ⟨f, j, d1, DdM_e d2 ⟨rfl, rfl, fun j _ _ _ => uI_ne _ _ (by omega), fun c _ _ => uI_row _ _ (by omega)⟩⟩
    · obtain ⟨f, j, d1, d2⟩ := d
      rw [tellC_dead d1]
      refine ⟨σ3, τ3, rfl, rfl, fC, frPM_trans (frPM_N q1) (frPM_trans (frPM_R hk f4) ?_), Or.inr ⟨f, j, d1, d2⟩⟩
      rcases e with e | ⟨x, e⟩
      · rw [e]; exact frPM_rfl
      · rw [e]; exact frPM_I s16 (by decide)
  · have d3 : DdC n b t 2 k (uI σ1 a 1 0) := DdC_e d1 ⟨rfl, uI_row _ _ (by omega), uI_row _ _ (by omega), uI_row _ _ (by omega), rfl⟩
    have l1 : lp (S_X4_parseRow_13 37 a) fuel (nI 0, uI σ1 a 1 0) = some (uI σ1 a 1 0) := by
      refine lp_1a ?_
      unfold S_X4_parseRow_13 F_X4_parseRow_13b
      dsimp only
      rw [if_neg (by decide), kindD d3, Option.bind_some, if_neg (by decide)]
      rfl
    have e60 : F_X12_tellWeather_60 0 (nI kk) (nI 0) τ1 = some (uI τ1 16 kk (nI 0)) := row60 (v := 0) hkk d2.1 (mustD d2)
    have l2 : lp (S_X12_tellWeather_2 0 (nI kk)) fuel (nI 0, τ1) = some (uI τ1 16 kk (nI 0)) := by
      refine lp_1a ?_
      unfold S_X12_tellWeather_2 F_X12_tellWeather_2b
      dsimp only
      rw [if_neg (DdM_pos d2).1, e60]
      rfl
    rw [l1, l2, Option.bind_some, Option.bind_some, tellM_282, tellC_dead d3]
    exact ⟨_, _, rfl, rfl, frPC_trans (frPC_T f1) (frPC_I (c := a) hat), frPM_trans (frPM_N q1) (frPM_I s16 (by decide)), Or.inr ⟨2, k, d3, DdM_e d2 ⟨rfl, rfl, fun j _ _ _ => uI_ne _ _ (by omega), fun c _ _ => uI_row _ _ (by omega)⟩⟩⟩
theorem tellM_145 {n k s d : Nat} {b : Nat → Nat} {τ : hSt} (h : LvM n b k τ) (hK : mkK (KK n b k) = 24 + d) (hd : d < 2) (hs : s < 2) (m19 : τ.1 0 19 = nI s) : F_X12_tell_145 0 τ = ((F_X12_goesOn 0 τ).bind fun z => (F_X12_tellWeather 0 (nI (2 * s + d)) z).bind fun y => F_X12_tell_282 y) := by
  obtain ⟨hQ, e11, gk, ck, k3⟩ := tellM_head h
  have e : (2 : Int32) * nI s + nI (24 + d) - 24 = nI (2 * s + d) := by
    have : ∀ s, s < 2 → ∀ d, d < 2 → (2 : Int32) * nI s + nI (24 + d) - 24 = nI (2 * s + d) := by decide
    exact this s hs d hd
  unfold F_X12_tell_145 cL
  dsimp only
  rw [rM_5 hQ, e11, cG_t gk, ck, k3, hK, m19, e]
theorem tellWind_eq {n t s k : Nat} {b : Nat → Nat} {σ τ : hSt} (hn : n ≤ 2000) (hb : ∀ i, b i < 256) (h : PR n b t s k σ τ) (hK : KK n b k = 142) : OutT n b t s k σ τ (F_X4_parseTell 37 σ) (F_X12_tell 0 τ) := by
  obtain ⟨w, wp, D, F, r, ⟨hs, ⟨hH, hM, hS⟩, ⟨e0, e3, e9⟩, ⟨m19, m11, m14, m19s, m20, m12⟩, c, e, m44, hc, m38, he⟩, hT⟩ := h
  have hP := r.1.1
  have hp3 := r.1.2.1
  have ht := r.1.2.2.1
  obtain ⟨t1, t2, t3⟩ := t_ok ht
  obtain ⟨hQ, e11, gk, ck, k3⟩ := tellM_head r.2.1
  have EC : F_X4_parseTell 37 σ = (F_X4_parseRow 37 (nI 142) (t + 7) σ).bind (fun z => F_X4_parseTell_158 37 z) := by
    unfold F_X4_parseTell
    rw [kindA r.1, hK, Option.bind_some]
    iterate 14 rw [if_neg (by decide)]
    rw [if_pos (show nI 142 = (142 : Int32) from rfl), r37 hp3 ht, rC_7_6 hP t1]
    rfl
  have EM : F_X12_tell 0 τ = ((F_X12_goesOn 0 τ).bind fun z => (F_X12_tellWeather 0 (nI (2 * s + 0)) z).bind fun y => F_X12_tell_282 y) := by
    rw [← tellM_145 (d := 0) r.2.1 (by rw [hK]; rfl) (by decide) hs m19]
    unfold F_X12_tell cL
    dsimp only
    rw [rM_5 hQ, e11, cG_t gk, ck, k3, hK]
    iterate 4 rw [if_neg (by decide)]
    rw [if_pos (show nI (mkK 142) = 24 from rfl)]
  rw [EC, EM]
  obtain ⟨σ', τ', o1, o2, o3, o4, o5⟩ := tellRow (kk := 2 * s + 0) hn hb r hK (by decide) (by decide) ⟨Or.inl rfl, oC_7_6 t1⟩ (Or.inl rfl) hs
  refine ⟨σ', τ', o1, o2, o3, o4, ?_⟩
  rcases o5 with ⟨k', w', wp', i, W, i1, i2, i3, r', i4, i5, rowC, rowM, r0j, j1, j2, j3, j4, j5⟩ | d
  · left
    refine ⟨k', i2, w', wp', xD3 (xD1 D 4 i) 6 W, F, r', ⟨hs, ⟨hH, hM, hS⟩, ⟨?_, ?_, ?_⟩, ⟨?_, ?_, ?_, ?_, ?_, ?_⟩, c, e, ?_, by omega, ?_, by omega⟩, fun q => ?_⟩
    · rw [rowC t (by omega) (by omega) (by omega)]; exact e0
    · rw [rowC t (by omega) (by omega) (by omega)]; exact e3
    · rw [rowC t (by omega) (by omega) (by omega)]; exact e9
    · rw [r0j 19 (by decide) (by decide) (by decide) (by decide) (by decide)]; exact m19
    · rw [rowM 11 (by decide) (by decide) (by decide)]; exact m11
    · rw [rowM 14 (by decide) (by decide) (by decide)]; exact m14
    · rw [rowM 19 (by decide) (by decide) (by decide)]; exact m19s
    · rw [r0j 20 (by decide) (by decide) (by decide) (by decide) (by decide)]; exact m20
    · rw [r0j 12 (by decide) (by decide) (by decide) (by decide) (by decide)]; exact m12
    · rw [r0j 44 (by decide) (by decide) (by decide) (by decide) (by decide)]; exact m44
    · rw [r0j 38 (by decide) (by decide) (by decide) (by decide) (by decide)]; exact m38
    · obtain ⟨⟨x1, x2, x3, x4, x5, x6, x7, x8, x9⟩, ⟨c1, c2, c3, c4, c5, c6, c7⟩, ⟨y1, y2, y3, y4, y5, y6, y7⟩, nm⟩ := hT (i3 q)
      have W2 : ∀ c, c ≠ 37 → c ≠ t + 7 → c ≠ t + 8 → σ'.1 c = σ.1 c := rowC
      refine ⟨⟨x1, x2, x3, x4, i1, x6, x7, x8, x9⟩, ⟨?_, ?_, ?_, ?_, ?_, ?_, ?_⟩, ⟨?_, ?_, ?_, ?_, ?_, ?_, ?_⟩, ?_⟩
      · rw [W2 t (by omega) (by omega) (by omega)]; exact c1
      · exact CX_e c2 rfl rfl rfl (W2 _ (by omega) (by omega) (by omega)) (W2 _ (by omega) (by omega) (by omega))
      · exact CH_e c3 rfl rfl (W2 _ (by omega) (by omega) (by omega))
      · exact CL_e c4 rfl rfl (W2 _ (by omega) (by omega) (by omega)) (W2 _ (by omega) (by omega) (by omega))
      · exact ⟨j1, fun x hx => (j4 x hx).1⟩
      · exact CF_e c6 rfl rfl (W2 _ (by omega) (by omega) (by omega)) (W2 _ (by omega) (by omega) (by omega))
      · exact CSl_e c7 rfl rfl rfl rfl (W2 _ (by omega) (by omega) (by omega)) (W2 _ (by omega) (by omega) (by omega)) (W2 _ (by omega) (by omega) (by omega))
      · rw [rowM 18 (by decide) (by decide) (by decide)]; exact y1
      · exact MX_e y2 rfl rfl rfl (rowM 12 (by decide) (by decide) (by decide)) (rowM 13 (by decide) (by decide) (by decide))
      · exact MH_e y3 rfl rfl (rowM 15 (by decide) (by decide) (by decide))
      · exact ML_e y4 rfl rfl (fun c a _ => rowM c (by omega) (by omega) (by omega))
      · exact ⟨j2, fun x hx => (j4 x hx).2⟩
      · refine ⟨?_, fun x hx => ?_⟩
        · rw [j3 _ (by omega)]; exact y6.1
        · have : x < 12 := by have := x6; exact Nat.lt_of_lt_of_le hx this
          rw [j5 _ (by omega)]; exact y6.2 x hx
      · exact MS_e y7 rfl rfl rfl rfl (rowM 20 (by decide) (by decide) (by decide)) (rowM 21 (by decide) (by decide) (by decide)) (rowM 22 (by decide) (by decide) (by decide))
      · exact NmR_fr nm (by rw [i4]) (by rw [i5]) (rowM 9 (by decide) (by decide) (by decide)) (rowM 10 (by decide) (by decide) (by decide))
  · exact Or.inr d
theorem tellFog_eq {n t s k : Nat} {b : Nat → Nat} {σ τ : hSt} (hn : n ≤ 2000) (hb : ∀ i, b i < 256) (h : PR n b t s k σ τ) (hK : KK n b k = 143) : OutT n b t s k σ τ (F_X4_parseTell 37 σ) (F_X12_tell 0 τ) := by
  obtain ⟨w, wp, D, F, r, ⟨hs, ⟨hH, hM, hS⟩, ⟨e0, e3, e9⟩, ⟨m19, m11, m14, m19s, m20, m12⟩, c, e, m44, hc, m38, he⟩, hT⟩ := h
  have hP := r.1.1
  have hp3 := r.1.2.1
  have ht := r.1.2.2.1
  obtain ⟨t1, t2, t3⟩ := t_ok ht
  obtain ⟨hQ, e11, gk, ck, k3⟩ := tellM_head r.2.1
  have EC : F_X4_parseTell 37 σ = (F_X4_parseRow 37 (nI 143) (t + 9) σ).bind (fun z => F_X4_parseTell_158 37 z) := by
    unfold F_X4_parseTell
    rw [kindA r.1, hK, Option.bind_some]
    iterate 15 rw [if_neg (by decide)]
    rw [if_pos (show nI 143 = (143 : Int32) from rfl), r37 hp3 ht, rC_7_7 hP t1]
    rfl
  have EM : F_X12_tell 0 τ = ((F_X12_goesOn 0 τ).bind fun z => (F_X12_tellWeather 0 (nI (2 * s + 1)) z).bind fun y => F_X12_tell_282 y) := by
    rw [← tellM_145 (d := 1) r.2.1 (by rw [hK]; rfl) (by decide) hs m19]
    unfold F_X12_tell cL
    dsimp only
    rw [rM_5 hQ, e11, cG_t gk, ck, k3, hK]
    iterate 5 rw [if_neg (by decide)]
    rw [if_pos (show nI (mkK 143) = 25 from rfl)]
  rw [EC, EM]
  obtain ⟨σ', τ', o1, o2, o3, o4, o5⟩ := tellRow (kk := 2 * s + 1) hn hb r hK (by decide) (by decide) ⟨Or.inr rfl, oC_7_7 t1⟩ (Or.inr rfl) hs
  refine ⟨σ', τ', o1, o2, o3, o4, ?_⟩
  rcases o5 with ⟨k', w', wp', i, W, i1, i2, i3, r', i4, i5, rowC, rowM, r0j, j1, j2, j3, j4, j5⟩ | d
  · left
    refine ⟨k', i2, w', wp', xD3 (xD1 D 5 i) 7 W, F, r', ⟨hs, ⟨hH, hM, hS⟩, ⟨?_, ?_, ?_⟩, ⟨?_, ?_, ?_, ?_, ?_, ?_⟩, c, e, ?_, by omega, ?_, by omega⟩, fun q => ?_⟩
    · rw [rowC t (by omega) (by omega) (by omega)]; exact e0
    · rw [rowC t (by omega) (by omega) (by omega)]; exact e3
    · rw [rowC t (by omega) (by omega) (by omega)]; exact e9
    · rw [r0j 19 (by decide) (by decide) (by decide) (by decide) (by decide)]; exact m19
    · rw [rowM 11 (by decide) (by decide) (by decide)]; exact m11
    · rw [rowM 14 (by decide) (by decide) (by decide)]; exact m14
    · rw [rowM 19 (by decide) (by decide) (by decide)]; exact m19s
    · rw [r0j 20 (by decide) (by decide) (by decide) (by decide) (by decide)]; exact m20
    · rw [r0j 12 (by decide) (by decide) (by decide) (by decide) (by decide)]; exact m12
    · rw [r0j 44 (by decide) (by decide) (by decide) (by decide) (by decide)]; exact m44
    · rw [r0j 38 (by decide) (by decide) (by decide) (by decide) (by decide)]; exact m38
    · obtain ⟨⟨x1, x2, x3, x4, x5, x6, x7, x8, x9⟩, ⟨c1, c2, c3, c4, c5, c6, c7⟩, ⟨y1, y2, y3, y4, y5, y6, y7⟩, nm⟩ := hT (i3 q)
      have W2 : ∀ c, c ≠ 37 → c ≠ t + 9 → c ≠ t + 10 → σ'.1 c = σ.1 c := rowC
      refine ⟨⟨x1, x2, x3, x4, x5, i1, x7, x8, x9⟩, ⟨?_, ?_, ?_, ?_, ?_, ?_, ?_⟩, ⟨?_, ?_, ?_, ?_, ?_, ?_, ?_⟩, ?_⟩
      · rw [W2 t (by omega) (by omega) (by omega)]; exact c1
      · exact CX_e c2 rfl rfl rfl (W2 _ (by omega) (by omega) (by omega)) (W2 _ (by omega) (by omega) (by omega))
      · exact CH_e c3 rfl rfl (W2 _ (by omega) (by omega) (by omega))
      · exact CL_e c4 rfl rfl (W2 _ (by omega) (by omega) (by omega)) (W2 _ (by omega) (by omega) (by omega))
      · exact CW_e c5 rfl rfl (W2 _ (by omega) (by omega) (by omega)) (W2 _ (by omega) (by omega) (by omega))
      · exact ⟨j1, fun x hx => (j4 x hx).1⟩
      · exact CSl_e c7 rfl rfl rfl rfl (W2 _ (by omega) (by omega) (by omega)) (W2 _ (by omega) (by omega) (by omega)) (W2 _ (by omega) (by omega) (by omega))
      · rw [rowM 18 (by decide) (by decide) (by decide)]; exact y1
      · exact MX_e y2 rfl rfl rfl (rowM 12 (by decide) (by decide) (by decide)) (rowM 13 (by decide) (by decide) (by decide))
      · exact MH_e y3 rfl rfl (rowM 15 (by decide) (by decide) (by decide))
      · exact ML_e y4 rfl rfl (fun c a _ => rowM c (by omega) (by omega) (by omega))
      · refine ⟨?_, fun x hx => ?_⟩
        · rw [j3 _ (by omega)]; exact y5.1
        · have : x < 12 := by have := x5; exact Nat.lt_of_lt_of_le hx this
          rw [j5 _ (by omega)]; exact y5.2 x hx
      · exact ⟨j2, fun x hx => (j4 x hx).2⟩
      · exact MS_e y7 rfl rfl rfl rfl (rowM 20 (by decide) (by decide) (by decide)) (rowM 21 (by decide) (by decide) (by decide)) (rowM 22 (by decide) (by decide) (by decide))
      · exact NmR_fr nm (by rw [i4]) (by rw [i5]) (rowM 9 (by decide) (by decide) (by decide)) (rowM 10 (by decide) (by decide) (by decide))
  · exact Or.inr d
