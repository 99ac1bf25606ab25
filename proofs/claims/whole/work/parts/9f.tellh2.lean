/-! ===== PURE 70: the tell of a hill ===== -/
theorem room_go {τ : hSt} {x y : Int32} (h13 : τ.1 0 13 = 0) (ne : ¬ x = y) : F_X12_roomFor 0 x y τ = F_X12_goesOn 0 τ := by
  unfold F_X12_roomFor F_X12_roomFor_10
  rw [if_neg ne, h13, if_pos rfl]
  cases F_X12_goesOn 0 τ with
  | none => rfl
  | some z => rfl
theorem room_full {n k : Nat} {b : Nat → Nat} {τ : hSt} {x y : Int32} (h : LvM n b k τ) (e : x = y) : ∃ τ', F_X12_roomFor 0 x y τ = some τ' ∧ DdM n b 2 k τ' ∧ frN τ τ' := by
  obtain ⟨τ', g1, g2, g3⟩ := mfailA (f := 2) h (Or.inr rfl)
  refine ⟨τ', ?_, g2, g3⟩
  unfold F_X12_roomFor F_X12_roomFor_10
  rw [if_pos e, show F_X12_fail 0 (2 : Int32) τ = F_X12_fail 0 (nI 2) τ from rfl, g1, Option.bind_some, if_neg (DdM_pos g2).1]
  rfl
theorem frPC_T {t : Nat} {s s' : hSt} (h : frT s s') : frPC t s s' := frPC_K (frKC_T h)
theorem tellM_282 {z : hSt} : F_X12_tell_282 z = some z := rfl
theorem tellHill_eq {n t s k : Nat} {b : Nat → Nat} {σ τ : hSt} (hn : n ≤ 2000) (hb : ∀ i, b i < 256) (h : PR n b t s k σ τ) (hK : KK n b k = 128) : OutT n b t s k σ τ (F_X4_parseTell 37 σ) (F_X12_tell 0 τ) := by
  obtain ⟨w, wp, D, F, r, ⟨hs, ⟨hH, hM, hS⟩, ⟨e0, e3, e9⟩, ⟨m19, m11, m14, m19s, m20, m12⟩, c, e, m44, hc, m38, he⟩, hT⟩ := h
  have hP := r.1.1
  have hp3 := r.1.2.1
  have ht := r.1.2.2.1
  have h13 := r.2.1.2.2.2.2.2
  obtain ⟨t1, t2, t3⟩ := t_ok ht
  obtain ⟨hQ, e11, gk, ck, k3⟩ := tellM_head r.2.1
  have g11 : inb (nI s) (kM 11).2 = true := inb_nI (by rw [kM_11]; exact hs) (by decide)
  have EC : F_X4_parseTell 37 σ = (F_X4_parseHill 37 σ).bind (fun z => F_X4_parseTell_158 37 z) := by
    unfold F_X4_parseTell
    rw [kindA r.1, hK, Option.bind_some, if_pos (show nI 128 = (128 : Int32) from rfl)]
  have EM : F_X12_tell 0 τ = (F_X12_roomFor 0 (nI (tH D)) 6 τ).bind fun σ25 => if σ25.1 0 13 = 0 then (F_X12_tellHill 0 σ25).bind (fun σ27 => F_X12_tell_282 σ27) else F_X12_tell_282 σ25 := by
    unfold F_X12_tell cL
    dsimp only
    rw [rM_5 hQ, e11, cG_t gk, ck, k3, hK, if_pos (show nI (mkK 128) = 20 from rfl), rM_24 hQ, m19, cG_t g11, cl_nI (by omega), m11]
  rw [EC, EM]
  by_cases h6 : tH D = 6
  · -- no room
    obtain ⟨σ', g1, g2, g3⟩ := failA (f := 2) r.1 (Or.inr rfl)
    obtain ⟨τ', p1, p2, p3⟩ := room_full (x := nI (tH D)) (y := 6) r.2.1 (by rw [h6]; rfl)
    refine ⟨σ', τ', ?_, ?_, frPC_T g3, frPM_N p3, Or.inr ⟨2, k, g2, p2⟩⟩
    · unfold F_X4_parseHill cL
      dsimp only
      rw [r37 hp3 ht, e0, if_neg (show ¬ nI (tH D) < (6 : Int32) by rw [h6]; decide), show F_X4_fail 37 (2 : Int32) σ = F_X4_fail 37 (nI 2) σ from rfl, g1, Option.bind_some, Option.bind_some, tellC_dead g2]
    · rw [p1, Option.bind_some, if_neg (DdM_pos p2).1, tellM_282]
  · have hH' : tH D < 6 := by omega
    obtain ⟨v, σ1, τ1, g1, p1, f1, q1, z⟩ := both_go hb r hK (by decide) (by decide)
    rw [room_go h13 (show ¬ nI (tH D) = (6 : Int32) from fun z => h6 ((nI_eq (b := 6) (by omega) (by decide)).mp z)), p1, Option.bind_some]
    have z0 : σ1.1 t 0 = nI (tH D) := by rw [f1.2.2 t (by omega)]; exact e0
    have z3 : σ1.1 t 3 = nI (tM D) := by rw [f1.2.2 t (by omega)]; exact e3
    rcases z with r1 | ⟨d1, d2⟩
    · have n19 : τ1.1 0 19 = nI s := by rw [q1.2.1 19 (by decide) (by decide) (by decide)]; exact m19
      have n20 : τ1.1 0 20 = nI (tH D + tM D) := by rw [q1.2.1 20 (by decide) (by decide) (by decide)]; exact m20
      have n11 : τ1.1 11 s = nI (tH D) := by rw [q1.2.2 11 (by decide)]; exact m11
      have hF : ∀ k' w' wp', (k' = k + 1 ∧ w' = w ∧ wp' = wp) → w' = 0 → NmR (tH D) (tM D) F σ1 τ1 := fun k' w' wp' i q => NmR_fr (hT (by omega)).2.2.2 (by rw [f1.1]) (by rw [q1.1]) (q1.2.2 9 (by decide)) (q1.2.2 10 (by decide))
      obtain ⟨σ', τ', o1, o2, o3, o4, o5⟩ := tellHill_B (I := fun k' w' wp' => k' = k + 1 ∧ w' = w ∧ wp' = wp) (F := F) hn hb (Or.inl ⟨k + 1, w, wp, ⟨rfl, rfl, rfl⟩, r1⟩) g1 f1 hp3 hs hH' hM z0 z3 n19 n11 n20 hF
      rw [o1, r1.2.1.2.2.2.2.2, if_pos rfl, o2, Option.bind_some, tellM_282]
      refine ⟨σ', τ', rfl, rfl, frPC_trans (frPC_T f1) o3, frPM_trans (frPM_N q1) o4, ?_⟩
      rcases o5 with ⟨k0, k', w0, w', wp0, wp', p, X, Y, i0, ek, r', hC, h42, h43, hMm, h8, h20, hj, hw⟩ | d
      · left
        have hC' : ∀ c, c ≠ 37 → ∀ j, σ'.1 c j = if c = t ∧ j = 0 then nI (tH D + 1) else if c = t + 2 ∧ j = tH D then nI Y else if c = t + 1 ∧ j = tH D then nI X else σ.1 c j := fun c hc j => by rw [hC c hc j, f1.2.2 c hc]
        have hM' : ∀ c, c ≠ 0 → ∀ j, τ'.1 c j = if c = 11 ∧ j = s then nI (tH D + 1) else if c = 10 ∧ j = tH D + tM D then nI (tH D) else if c = 9 ∧ j = tH D + tM D then 0 else if c = 13 ∧ j = 6 * s + tH D then nI Y else if c = 12 ∧ j = 6 * s + tH D then nI X else τ.1 c j := fun c hc j => by rw [hMm c hc j, q1.2.2 c hc]
        have rowC : ∀ c, c ≠ 37 → c ≠ t → c ≠ t + 1 → c ≠ t + 2 → σ'.1 c = σ.1 c := fun c a1 a2 a3 a4 => funext fun j => by rw [hC' c a1 j, if_neg (fun q => a2 q.1), if_neg (fun q => a4 q.1), if_neg (fun q => a3 q.1)]
        have rowM : ∀ c, 14 ≤ c → τ'.1 c = τ.1 c := fun c a1 => funext fun j => by rw [hM' c (by omega) j, if_neg (by omega), if_neg (by omega), if_neg (by omega), if_neg (by omega), if_neg (by omega)]
        have rtj : ∀ j, j ≠ 0 → σ'.1 t j = σ.1 t j := fun j a => by rw [hC' t (by omega) j, if_neg (fun q => a q.2), if_neg (by omega), if_neg (by omega)]
        have r0j : ∀ j, j ≠ 11 → j ≠ 13 → j ≠ 14 → j ≠ 15 → j ≠ 16 → j ≠ 20 → τ'.1 0 j = τ.1 0 j := fun j a1 a2 a3 a4 a5 a6 => by rw [hj j a1 a2 a3 a4 a5 a6, q1.2.1 j a1 a2 a3]
        refine ⟨k', by omega, w', wp', xD2 (xD2 (xD1 D 0 (tH D + 1)) 0 (tH D) X) 1 (tH D) Y, addF F (tH D + tM D) p, r', ⟨hs, ⟨?_, hM, hS⟩, ⟨?_, ?_, ?_⟩, ⟨?_, ?_, ?_, ?_, ?_, ?_⟩, c, e, ?_, by omega, ?_, by omega⟩, fun q => ?_⟩
        · show tH D + 1 ≤ 6; omega
        · rw [hC' t (by omega) 0, if_pos ⟨rfl, rfl⟩]; rfl
        · rw [rtj 3 (by decide)]; exact e3
        · rw [rtj 9 (by decide)]; exact e9
        · rw [r0j 19 (by decide) (by decide) (by decide) (by decide) (by decide) (by decide)]; exact m19
        · rw [hM' 11 (by decide) s, if_pos ⟨rfl, rfl⟩]; rfl
        · rw [rowM 14 (by decide)]; exact m14
        · rw [rowM 19 (by decide)]; exact m19s
        · rw [h20]; show nI (tH D + tM D + 1) = nI (tH D + 1 + tM D); rw [Nat.add_right_comm]
        · rw [r0j 12 (by decide) (by decide) (by decide) (by decide) (by decide) (by decide)]; exact m12
        · rw [r0j 44 (by decide) (by decide) (by decide) (by decide) (by decide) (by decide)]; exact m44
        · rw [r0j 38 (by decide) (by decide) (by decide) (by decide) (by decide) (by decide)]; exact m38
        · obtain ⟨q0, vp, nn, hX, hY⟩ := hw q
          obtain ⟨⟨x1, x2, x3, x4, x5, x6, x7, x8, x9⟩, ⟨c1, c2, c3, c4, c5, c6, c7⟩, ⟨y1, y2, y3, y4, y5, y6, y7⟩, nm⟩ := hT (by have := i0.2.1; omega)
          have xX : ∀ i, tX (xD2 (xD2 (xD1 D 0 (tH D + 1)) 0 (tH D) X) 1 (tH D) Y) i = if i = tH D then X else tX D i := fun i => by
            show (if 0 = 1 ∧ i = tH D then Y else if 0 = 0 ∧ i = tH D then X else tX D i) = _
            by_cases z : i = tH D <;> simp [z]
          have xY : ∀ i, tY (xD2 (xD2 (xD1 D 0 (tH D + 1)) 0 (tH D) X) 1 (tH D) Y) i = if i = tH D then Y else tY D i := fun i => by
            show (if 1 = 1 ∧ i = tH D then Y else if 1 = 0 ∧ i = tH D then X else tY D i) = _
            by_cases z : i = tH D <;> simp [z]
          refine ⟨⟨?_, x2, x3, x4, x5, x6, ?_, ?_, ?_⟩, ⟨?_, ?_, ?_, ?_, ?_, ?_, ?_⟩, ⟨?_, ?_, ?_, ?_, ?_, ?_, ?_⟩, ?_⟩
          · show tH D + 1 ≤ 6; omega
          · intro i hi
            have hi : i < tH D + 1 := hi
            rw [xX, xY]
            by_cases z : i = tH D
            · rw [if_pos z, if_pos z]; exact ⟨hX, hY⟩
            · rw [if_neg z, if_neg z]; exact x7 i (by omega)
          · intro m hm
            have := x8 m hm
            show tHm D m < tH D + 1
            omega
          · intro i hi
            obtain ⟨u1, u2⟩ := x9 i hi
            exact ⟨show tA D i < tH D + 1 by omega, u2⟩
          · rw [rtj 8 (by decide)]; exact c1
          · intro i hi
            have hi : i < tH D + 1 := hi
            have a1 : σ'.1 (t + 1) i = if i = tH D then nI X else σ.1 (t + 1) i := by
              rw [hC' (t + 1) (by omega) i, if_neg (by omega), if_neg (by omega)]
              by_cases z : i = tH D
              · rw [if_pos ⟨rfl, z⟩, if_pos z]
              · rw [if_neg (fun a => z a.2), if_neg z]
            have a2 : σ'.1 (t + 2) i = if i = tH D then nI Y else σ.1 (t + 2) i := by
              rw [hC' (t + 2) (by omega) i, if_neg (by omega)]
              by_cases z : i = tH D
              · rw [if_pos ⟨rfl, z⟩, if_pos z]
              · rw [if_neg (fun a => z a.2), if_neg (by omega), if_neg z]
            rw [xX, xY, a1, a2]
            by_cases z : i = tH D
            · rw [if_pos z, if_pos z, if_pos z, if_pos z]; exact ⟨rfl, rfl⟩
            · rw [if_neg z, if_neg z, if_neg z, if_neg z]; exact c2 i (by omega)
          · exact CH_e c3 rfl rfl (rowC _ (by omega) (by omega) (by omega) (by omega))
          · exact CL_e c4 rfl rfl (rowC _ (by omega) (by omega) (by omega) (by omega)) (rowC _ (by omega) (by omega) (by omega) (by omega))
          · exact CW_e c5 rfl rfl (rowC _ (by omega) (by omega) (by omega) (by omega)) (rowC _ (by omega) (by omega) (by omega) (by omega))
          · exact CF_e c6 rfl rfl (rowC _ (by omega) (by omega) (by omega) (by omega)) (rowC _ (by omega) (by omega) (by omega) (by omega))
          · exact CSl_e c7 rfl rfl rfl rfl (rowC _ (by omega) (by omega) (by omega) (by omega)) (rowC _ (by omega) (by omega) (by omega) (by omega)) (rowC _ (by omega) (by omega) (by omega) (by omega))
          · rw [rowM 18 (by decide)]; exact y1
          · intro i hi
            have hi : i < tH D + 1 := hi
            have a1 : τ'.1 12 (6 * s + i) = if i = tH D then nI X else τ.1 12 (6 * s + i) := by
              rw [hM' 12 (by decide) _, if_neg (by omega), if_neg (by omega), if_neg (by omega), if_neg (by omega)]
              by_cases z : i = tH D
              · rw [if_pos ⟨rfl, by omega⟩, if_pos z]
              · rw [if_neg (by omega), if_neg z]
            have a2 : τ'.1 13 (6 * s + i) = if i = tH D then nI Y else τ.1 13 (6 * s + i) := by
              rw [hM' 13 (by decide) _, if_neg (by omega), if_neg (by omega), if_neg (by omega)]
              by_cases z : i = tH D
              · rw [if_pos ⟨rfl, by omega⟩, if_pos z]
              · rw [if_neg (by omega), if_neg (by omega), if_neg z]
            rw [xX, xY, a1, a2]
            by_cases z : i = tH D
            · rw [if_pos z, if_pos z, if_pos z, if_pos z]; exact ⟨rfl, rfl⟩
            · rw [if_neg z, if_neg z, if_neg z, if_neg z]; exact y2 i (by omega)
          · exact MH_e y3 rfl rfl (rowM 15 (by decide))
          · exact ML_e y4 rfl rfl (fun c a _ => rowM c (by omega))
          · exact MW_e y5 rfl rfl (rowM 16 (by decide)) (rowM 17 (by decide))
          · exact MF_e y6 rfl rfl (rowM 16 (by decide)) (rowM 17 (by decide))
          · exact MS_e y7 rfl rfl rfl rfl (rowM 20 (by decide)) (rowM 21 (by decide)) (rowM 22 (by decide))
          · show NmR (tH D + 1) (tM D) (addF F (tH D + tM D) p) σ' τ'
            exact NmR_addH nm vp nn (fun j => by rw [h42 j, f1.1]) (fun j => by rw [h43 j, f1.1]) (fun j => by rw [h8 j, q1.1]) (fun j => by rw [hM' 9 (by decide) j, if_neg (by omega), if_neg (by omega)]; by_cases z : j = tH D + tM D <;> simp [z]) (fun j => by rw [hM' 10 (by decide) j, if_neg (by omega)]; by_cases z : j = tH D + tM D <;> simp [z])
      · exact Or.inr d
    · obtain ⟨σ', o1, o2, o3⟩ := hillC_dead g1 d1 hp3 hH' hM e0 z0 z3
      rw [o1, Option.bind_some, tellC_dead o2, if_neg (DdM_pos d2).1, tellM_282]
      exact ⟨σ', τ1, rfl, rfl, frPC_trans (frPC_T f1) o3, frPM_N q1, Or.inr ⟨2, k, o2, d2⟩⟩
