/-! ===== PURE 80: the tell of a law ===== -/
theorem OutL_lt {n t s B0 k k' w wp : Nat} {b : Nat → Nat} {σ τ : hSt} (h : OutL n b t s B0 k' w wp σ τ) (hk : k ≤ k') : OutL n b t s B0 k w wp σ τ := by
  obtain ⟨k1, e1, c1, bs, z, h1, h2⟩ := h
  exact ⟨k1, e1, c1, bs, z, by omega, h2⟩
theorem loopDead {n t f j L s e i B0 : Nat} {b : Nat → Nat} {σ τ : hSt} (hb : ∀ i, b i < 256) (hs : s < 2) (h : DdC n b t f j σ) (h' : DdM n b f j τ) (hL : L ≤ 401) (eL : σ.1 (t + 4) 2 = nI L) (he : e < 130) (e38 : τ.1 0 38 = nI (130 * s + e)) (hi : i < 10) :
    ∃ σ' τ', (∀ N, 1 ≤ N → (lp (S_X4_parseLaw_28 37) N (nI i, σ)).bind (fun z => F_X4_parseTell_158 37 z) = some σ') ∧ (∀ N, 1 ≤ N → lp (S_X12_tellLaw_7 0 (nI B0)) N (nI i, τ) = some τ') ∧ frX t σ σ' ∧ frLw s τ τ' ∧ DdR n b t σ' τ' := by
  obtain ⟨σ', g1, g2, g3⟩ := end154_dead hb h hL eL
  obtain ⟨τ', p1, p2, p3⟩ := end124_dead (x := nI B0) hs h' he e38
  refine ⟨σ', τ', fun N hN => ?_, fun N hN => ?_, g3, p3, f, j, g2, p2⟩
  · obtain ⟨N, rfl⟩ : ∃ N', N = N' + 1 := ⟨N - 1, by omega⟩
    have s1 : S_X4_parseLaw_28 37 (nI i, σ) = some (.inr σ') := by
      unfold S_X4_parseLaw_28 F_X4_parseLaw_28b
      dsimp only
      rw [g1]
      by_cases q : (4 : Int32) < nI i
      · rw [if_pos q]; rfl
      · rw [if_neg q, kindD h, Option.bind_some, if_neg (by decide)]; rfl
    rw [lp_inr s1, Option.bind_some, tellC_dead g2]
  · obtain ⟨N, rfl⟩ : ∃ N', N = N' + 1 := ⟨N - 1, by omega⟩
    refine lp_inr ?_
    unfold S_X12_tellLaw_7 F_X12_tellLaw_7b
    dsimp only
    rw [if_neg (DdM_pos h').1, p1]
    rfl
theorem lawLoop {n t s B0 w wp : Nat} {b : Nat → Nat} (hb : ∀ i, b i < 256) (hs : s < 2) :
    ∀ (m i : Nat), i + m = 4 → ∀ (σ τ : hSt) (k L c e : Nat) (bs : List Brn), InvL n b t s B0 k w wp L c e bs σ τ → τ.1 0 19 = nI s →
      ∃ σ' τ', (∀ N, m + 3 ≤ N → (lp (S_X4_parseLaw_28 37) N (nI i, σ)).bind (fun z => F_X4_parseTell_158 37 z) = some σ') ∧ (∀ N, m + 3 ≤ N → lp (S_X12_tellLaw_7 0 (nI B0)) N (nI i, τ) = some τ') ∧ frX t σ σ' ∧ frLw s τ τ' ∧ (OutL n b t s B0 k w wp σ' τ' ∨ DdR n b t σ' τ')
  | m, i, hi, σ, τ, k, L, c, e, bs, h, m19 => by
    have h' := h
    obtain ⟨r, hL, eL, hcp, e12, e44, hc, e38, he, hB0, hmp⟩ := h'
    have hk := r.1.2.2.2.2.2.1
    have h13 := r.2.1.2.2.2.2.2
    have hi4 : ¬ (4 : Int32) < nI i := nI_nlt (a := 4) (by omega) (by decide)
    by_cases hK : KK n b k = 132
    · have kind : F_X4_kind 37 σ = some (132 : Int32) := by rw [kindA r.1, hK]; rfl
      have isy : F_X12_is 0 (32 : Int32) τ = some 1 := by
        have := isA r.2.1 (w := 132) (by decide)
        rw [if_pos hK] at this
        exact this
      match m, hi with
      | 0, hi =>
        have hi : i = 4 := by omega
        subst hi
        obtain ⟨σ1, g1, g2, g3⟩ := failA (f := 2) r.1 (Or.inr rfl)
        obtain ⟨τ1, p1, p2, p3⟩ := mfailA (f := 2) r.2.1 (Or.inr rfl)
        have ht := r.1.2.2.1
        have eL1 : σ1.1 (t + 4) 2 = nI L := by rw [g3.2.2 (t + 4) (by have := (t_ok ht).2.2; omega)]; exact eL
        obtain ⟨σ2, L2, y1, y2, y3, y4, y5⟩ := round53_dead (i := 4) hb g2 (show L ≤ 401 by omega) eL1
        obtain ⟨σ3, z1, z2, z3⟩ := end154_dead hb y2 y4 y5
        refine ⟨σ3, τ1, fun N hN => ?_, fun N hN => ?_, frX_trans (frX_T ht g3) (frX_trans y3 z3), frLw_N p3, Or.inr ⟨2, k, z2, p2⟩⟩
        · obtain ⟨N, rfl⟩ : ∃ N', N = N' + 2 := ⟨N - 2, by omega⟩
          have s1 : S_X4_parseLaw_28 37 (nI 4, σ) = some (.inl (nI 5, σ2)) := by
            unfold S_X4_parseLaw_28 F_X4_parseLaw_28b
            dsimp only
            rw [if_neg hi4, kind, Option.bind_some, if_pos rfl, if_pos (show nI 4 = (4 : Int32) from rfl), show F_X4_fail 37 (2 : Int32) σ = F_X4_fail 37 (nI 2) σ from rfl, g1, Option.bind_some, y1]
          have s2 : S_X4_parseLaw_28 37 (nI 5, σ2) = some (.inr σ3) := by
            unfold S_X4_parseLaw_28 F_X4_parseLaw_28b
            dsimp only
            rw [if_pos (show (4 : Int32) < nI 5 by decide), z1]
            rfl
          rw [lp_inl s1, lp_inr s2, Option.bind_some, tellC_dead z2]
        · obtain ⟨N, rfl⟩ : ∃ N', N = N' + 1 := ⟨N - 1, by omega⟩
          refine lp_inr ?_
          unfold S_X12_tellLaw_7 F_X12_tellLaw_7b
          dsimp only
          rw [h13, if_pos rfl, isy, Option.bind_some, if_neg (by decide), if_pos (show nI 4 = (4 : Int32) from rfl), show F_X12_fail 0 (2 : Int32) τ = F_X12_fail 0 (nI 2) τ from rfl, p1, Option.bind_some]
          unfold F_X12_tellLaw_33
          rw [if_neg (DdM_pos p2).2.1]
      | m + 1, hi =>
        obtain ⟨σ1, τ1, g1, p1, fx, fm, e38', out⟩ := lawRound (i := i) hb hs h hK
        have ne : ¬ nI i = (4 : Int32) := fun z => by have := (nI_eq (b := 4) (by omega) (by decide)).mp z; omega
        have s1 : S_X4_parseLaw_28 37 (nI i, σ) = some (.inl (nI (i + 1), σ1)) := by
          unfold S_X4_parseLaw_28 F_X4_parseLaw_28b
          dsimp only
          rw [if_neg hi4, kind, Option.bind_some, if_pos rfl, if_neg ne, g1]
        have s2 : S_X12_tellLaw_7 0 (nI B0) (nI i, τ) = some (.inl (nI (i + 1), τ1)) := by
          unfold S_X12_tellLaw_7 F_X12_tellLaw_7b
          dsimp only
          rw [h13, if_pos rfl, isy, Option.bind_some, if_neg (by decide), if_neg ne, p1]
        rcases out with ⟨k', L', c', bs', hk', inv⟩ | ⟨⟨f, j, d1, d2⟩, L', d3, d4⟩
        · obtain ⟨σ2, τ2, o1, o2, o3, o4, o5⟩ := lawLoop hb hs m (i + 1) (by omega) σ1 τ1 k' L' c' (e + 1) bs' inv (by rw [fm.2.1 19 (by decide) (by decide) (by decide) (by decide) (by decide) (by decide) (by decide)]; exact m19)
          refine ⟨σ2, τ2, fun N hN => ?_, fun N hN => ?_, frX_trans fx o3, frLw_trans fm o4, o5.imp (fun q => OutL_lt q (by omega)) id⟩
          · obtain ⟨N, rfl⟩ : ∃ N', N = N' + 1 := ⟨N - 1, by omega⟩
            rw [lp_inl s1]
            exact o1 N (by omega)
          · obtain ⟨N, rfl⟩ : ∃ N', N = N' + 1 := ⟨N - 1, by omega⟩
            rw [lp_inl s2]
            exact o2 N (by omega)
        · obtain ⟨σ2, τ2, o1, o2, o3, o4, o5⟩ := loopDead (B0 := B0) (i := i + 1) (e := e + 1) hb hs d1 d2 d3 d4 (by omega) e38' (by omega)
          refine ⟨σ2, τ2, fun N hN => ?_, fun N hN => ?_, frX_trans fx o3, frLw_trans fm o4, Or.inr o5⟩
          · obtain ⟨N, rfl⟩ : ∃ N', N = N' + 1 := ⟨N - 1, by omega⟩
            rw [lp_inl s1]
            exact o1 N (by omega)
          · obtain ⟨N, rfl⟩ : ∃ N', N = N' + 1 := ⟨N - 1, by omega⟩
            rw [lp_inl s2]
            exact o2 N (by omega)
    · obtain ⟨σ1, τ1, g1, p1, fx, fm, out⟩ := lawEnd hb hs h m19
      refine ⟨σ1, τ1, fun N hN => ?_, fun N hN => ?_, fx, fm, out⟩
      · obtain ⟨N, rfl⟩ : ∃ N', N = N' + 1 := ⟨N - 1, by omega⟩
        cases q : F_X4_parseLaw_154 37 σ with
        | none => rw [q] at g1; cases g1
        | some z =>
          have s1 : S_X4_parseLaw_28 37 (nI i, σ) = some (.inr z) := by
            unfold S_X4_parseLaw_28 F_X4_parseLaw_28b
            dsimp only
            rw [if_neg hi4, kindA r.1, Option.bind_some, if_neg (show ¬ nI (KK n b k) = (132 : Int32) from fun z => hK ((nI_eq (b := 132) (by have := KK_lt (n := n) hb k; omega) (by decide)).mp z)), q]
            rfl
          rw [q] at g1
          rw [lp_inr s1]
          exact g1
      · obtain ⟨N, rfl⟩ : ∃ N', N = N' + 1 := ⟨N - 1, by omega⟩
        refine lp_inr ?_
        unfold S_X12_tellLaw_7 F_X12_tellLaw_7b
        dsimp only
        have := isA r.2.1 (w := 132) (by decide)
        rw [if_neg hK] at this
        rw [h13, if_pos rfl, show F_X12_is 0 (32 : Int32) τ = F_X12_is 0 (nI (mkK 132)) τ from rfl, this, Option.bind_some, if_pos rfl, p1]
        rfl
  termination_by m => m
def xDL (D : TxD) (bs : List Brn) (z : Ops) : TxD := (D.1, D.2.1, bs, z)
theorem tellLaw_eq {n t s k : Nat} {b : Nat → Nat} {σ τ : hSt} (hn : n ≤ 2000) (hb : ∀ i, b i < 256) (h : PR n b t s k σ τ) (hK : KK n b k = 131) : OutT n b t s k σ τ (F_X4_parseTell 37 σ) (F_X12_tell 0 τ) := by
  obtain ⟨w, wp, D, F, r, ⟨hs, ⟨hH, hM, hS⟩, ⟨e0, e3, e9⟩, ⟨m19, m11, m14, m19s, m20, m12⟩, c, e, m44, hc, m38, he⟩, hT⟩ := h
  have hk := r.1.2.2.2.2.2.1
  have hP := r.1.1
  have hp3 := r.1.2.1
  have ht := r.1.2.2.1
  obtain ⟨t1, t2, t3⟩ := t_ok ht
  obtain ⟨hQ, e11, gk, ck, k3⟩ := tellM_head r.2.1
  obtain ⟨v, σ1, τ1, g1, p1, f1, q1, z⟩ := both_go hb r hK (by decide) (by decide)
  have B1 : Bth n b t (fun k' w' wp' => k' = k + 1 ∧ w' = w ∧ wp' = wp) σ1 τ1 := by
    rcases z with z | ⟨u1, u2⟩
    · exact Or.inl ⟨k + 1, w, wp, ⟨rfl, rfl, rfl⟩, z⟩
    · exact Or.inr ⟨2, k, u1, u2⟩
  obtain ⟨v2, σ2, τ2, g2, p2, f2, q2, B2⟩ := takeB (x := 61) hb B1 (by decide) (by decide) (by decide)
  obtain ⟨P2, Q2, -, R2⟩ := Bth_C B2
  have B3 := Bth_e (σ' := uI σ2 (t + 4) 2 0) (τ' := τ2) B2 ⟨rfl, uI_row _ _ (by omega), uI_row _ _ (by omega), uI_row _ _ (by omega), rfl⟩ eqM_rfl
  have t0 : ∀ j, j ≠ 11 → j ≠ 13 → j ≠ 14 → j ≠ 15 → j ≠ 16 → τ2.1 0 j = τ.1 0 j := fun j a1 a2 a3 a4 a5 => by rw [q2.2.1 j a1 a2 a3 a4 a5, q1.2.1 j a1 a2 a3]
  have n38 : τ2.1 0 38 = nI (130 * s + e) := by rw [t0 38 (by decide) (by decide) (by decide) (by decide) (by decide)]; exact m38
  have n19 : τ2.1 0 19 = nI s := by rw [t0 19 (by decide) (by decide) (by decide) (by decide) (by decide)]; exact m19
  have EC : F_X4_parseTell 37 σ = (lp (S_X4_parseLaw_28 37) fuel (nI 0, uI σ2 (t + 4) 2 0)).bind (fun z => F_X4_parseTell_158 37 z) := by
    unfold F_X4_parseTell
    rw [kindA r.1, hK, Option.bind_some]
    iterate 3 rw [if_neg (by decide)]
    rw [if_pos (show nI 131 = (131 : Int32) from rfl)]
    unfold F_X4_parseLaw cL
    rw [show F_X4_take 37 (131 : Int32) σ = F_X4_take 37 (nI 131) σ from rfl, cC_t g1, show F_X4_take 37 (61 : Int32) σ1 = F_X4_take 37 (nI 61) σ1 from rfl, cC_t g2, r37 Q2 ht, rC_7_5 P2 t1]
    rfl
  have EM : F_X12_tell 0 τ = lp (S_X12_tellLaw_7 0 (nI (130 * s + e))) fuel (nI 0, τ2) := by
    unfold F_X12_tell cL
    dsimp only
    rw [rM_5 hQ, e11, cG_t gk, ck, k3, hK]
    iterate 3 rw [if_neg (by decide)]
    rw [if_pos (show nI (mkK 131) = 23 from rfl), p1, Option.bind_some, show F_X12_must 0 (5 : Int32) τ1 = F_X12_must 0 (nI (mkK 61)) τ1 from rfl, p2, Option.bind_some]
    unfold F_X12_tellLaw F_X12_tellLaw_7 cL
    dsimp only
    rw [n38]
    show (lp (S_X12_tellLaw_7 0 (nI (130 * s + e))) fuel (nI 0, τ2)).bind _ = _
    cases lp (S_X12_tellLaw_7 0 (nI (130 * s + e))) fuel (nI 0, τ2) with
    | none => rfl
    | some x => rfl
  have fC0 : frX t σ (uI σ2 (t + 4) 2 0) → True := fun _ => trivial
  rw [EC, EM]
  have fC : frPC t σ (uI σ2 (t + 4) 2 0) := frPC_trans (frPC_T f1) (frPC_trans (frPC_K f2) (frPC_I (c := t + 4) (by omega)))
  have fM : frPM s τ τ2 := frPM_trans (frPM_N q1) (frPM_K q2)
  rcases B3 with ⟨k2, w2, wp2, ⟨k1, u1, ⟨u2, u3, u4⟩, u5⟩, r2⟩ | ⟨f, j, d1, d2⟩
  · subst u2 u3 u4 u1
    have inv : InvL n b t s (130 * s + e) (k + 1 + 1) w2 wp2 0 c e [] (uI σ2 (t + 4) 2 0) τ2 := by
      refine ⟨r2, by omega, ?_, rfl, ?_, ?_, by omega, n38, by omega, by omega, rfl⟩
      · rw [uI_I, if_pos ⟨rfl, rfl⟩]; rfl
      · rw [t0 12 (by decide) (by decide) (by decide) (by decide) (by decide)]; exact m12
      · rw [t0 44 (by decide) (by decide) (by decide) (by decide) (by decide)]; exact m44
    obtain ⟨σ', τ', o1, o2, o3, o4, o5⟩ := lawLoop hb hs 4 0 rfl _ _ _ _ _ _ _ inv n19
    refine ⟨σ', τ', o1 fuel (by rw [fuel_v]; omega), o2 fuel (by rw [fuel_v]; omega), frPC_trans fC (frPC_X o3), frPM_trans fM (frLw_P o4), ?_⟩
    rcases o5 with ⟨k', e', c', bs, zz, v1, v2, ⟨L, v3, v4, v5⟩, v6, v7, v8, v9, v10, v11, v12, v13⟩ | d
    · left
      have rowC : ∀ c, c ≠ 37 → c ≠ t + 4 → c ≠ t + 5 → σ'.1 c = σ.1 c := fun c a1 a2 a3 => by rw [o3.2.2.2 c a1 a2 a3, uI_row _ _ a2, f2.2 c a1, f1.2.2 c a1]
      have rowM : ∀ c, c ≠ 0 → ¬ (23 ≤ c ∧ c ≤ 32) → τ'.1 c = τ.1 c := fun c a1 a2 => by rw [o4.2.2.1 c a1 a2, q2.2.2 c a1, q1.2.2 c a1]
      have r0j : ∀ j, j ≠ 11 → j ≠ 12 → j ≠ 13 → j ≠ 14 → j ≠ 15 → j ≠ 16 → j ≠ 38 → j ≠ 44 → j ≠ 48 → τ'.1 0 j = τ.1 0 j := fun j a1 a2 a3 a4 a5 a6 a7 a8 a9 => by rw [o4.2.1 j a1 a2 a3 a4 a7 a8 a9, t0 j a1 a3 a4 a5 a6]
      refine ⟨k', by omega, w2, wp2, xDL D bs zz, F, v2, ⟨hs, ⟨hH, hM, hS⟩, ⟨?_, ?_, ?_⟩, ⟨?_, ?_, ?_, ?_, ?_, v6⟩, c', e', v7, v8, v9, v10⟩, fun q => ?_⟩
      · rw [rowC t (by omega) (by omega) (by omega)]; exact e0
      · rw [rowC t (by omega) (by omega) (by omega)]; exact e3
      · rw [rowC t (by omega) (by omega) (by omega)]; exact e9
      · rw [r0j 19 (by decide) (by decide) (by decide) (by decide) (by decide) (by decide) (by decide) (by decide) (by decide)]; exact m19
      · rw [rowM 11 (by decide) (by decide)]; exact m11
      · rw [rowM 14 (by decide) (by decide)]; exact m14
      · rw [rowM 19 (by decide) (by decide)]; exact m19s
      · rw [r0j 20 (by decide) (by decide) (by decide) (by decide) (by decide) (by decide) (by decide) (by decide) (by decide)]; exact m20
      · obtain ⟨⟨x1, x2, x3, x4, x5, x6, x7, x8, x9⟩, ⟨c1, c2, c3, c4, c5, c6, c7⟩, ⟨y1, y2, y3, y4, y5, y6, y7⟩, nm⟩ := hT q
        refine ⟨⟨x1, x2, x3, x4, x5, x6, x7, x8, x9⟩, ⟨?_, ?_, ?_, ?_, ?_, ?_, ?_⟩, ⟨?_, ?_, ?_, ?_, ?_, ?_, ?_⟩, ?_⟩
        · rw [rowC t (by omega) (by omega) (by omega)]; exact c1
        · exact CX_e c2 rfl rfl rfl (rowC _ (by omega) (by omega) (by omega)) (rowC _ (by omega) (by omega) (by omega))
        · exact CH_e c3 rfl rfl (rowC _ (by omega) (by omega) (by omega))
        · exact ⟨L, v3, v4, v5⟩
        · exact CW_e c5 rfl rfl (rowC _ (by omega) (by omega) (by omega)) (rowC _ (by omega) (by omega) (by omega))
        · exact CF_e c6 rfl rfl (rowC _ (by omega) (by omega) (by omega)) (rowC _ (by omega) (by omega) (by omega))
        · exact CSl_e c7 rfl rfl rfl rfl (rowC _ (by omega) (by omega) (by omega)) (rowC _ (by omega) (by omega) (by omega)) (rowC _ (by omega) (by omega) (by omega))
        · rw [rowM 18 (by decide) (by decide)]; exact y1
        · exact MX_e y2 rfl rfl rfl (rowM 12 (by decide) (by decide)) (rowM 13 (by decide) (by decide))
        · exact MH_e y3 rfl rfl (rowM 15 (by decide) (by decide))
        · exact ⟨130 * s + e, 130 * s + e', v11, v12, Or.inr v13⟩
        · exact MW_e y5 rfl rfl (rowM 16 (by decide) (by decide)) (rowM 17 (by decide) (by decide))
        · exact MF_e y6 rfl rfl (rowM 16 (by decide) (by decide)) (rowM 17 (by decide) (by decide))
        · exact MS_e y7 rfl rfl rfl rfl (rowM 20 (by decide) (by decide)) (rowM 21 (by decide) (by decide)) (rowM 22 (by decide) (by decide))
        · exact NmR_fr nm (by rw [o3.1, uI_2, f2.1, f1.1]) (by rw [o4.1, q2.1, q1.1]) (rowM 9 (by decide) (by decide)) (rowM 10 (by decide) (by decide))
    · exact Or.inr d
  · obtain ⟨σ', τ', o1, o2, o3, o4, o5⟩ := loopDead (B0 := 130 * s + e) (i := 0) (L := 0) (e := e) hb hs d1 d2 (by decide) (by rw [uI_I, if_pos ⟨rfl, rfl⟩]; rfl) (by omega) n38 (by decide)
    exact ⟨σ', τ', o1 fuel (by rw [fuel_v]; omega), o2 fuel (by rw [fuel_v]; omega), frPC_trans fC (frPC_X o3), frPM_trans fM (frLw_P o4), Or.inr o5⟩
/-- every tell -/
theorem anyTell_eq {n t s k : Nat} {b : Nat → Nat} {σ τ : hSt} (hn : n ≤ 2000) (hb : ∀ i, b i < 256) (h : PR n b t s k σ τ) : OutT n b t s k σ τ (F_X4_parseTell 37 σ) (F_X12_tell 0 τ) := by
  by_cases q1 : KK n b k = 128
  · exact tellHill_eq hn hb h q1
  · by_cases q2 : KK n b k = 129
    · exact tellNews_eq hn hb h q2
    · by_cases q3 : KK n b k = 131
      · exact tellLaw_eq hn hb h q3
      · by_cases q4 : KK n b k = 135
        · exact tellOrder_eq hn hb h q4
        · by_cases q5 : KK n b k = 140
          · exact tellSleep_eq hn hb h q5
          · by_cases q6 : KK n b k = 142
            · exact tellWind_eq hn hb h q6
            · by_cases q7 : KK n b k = 143
              · exact tellFog_eq hn hb h q7
              · exact tellOther_eq h ⟨q1, q2, q3, q4, q5, q6, q7⟩
