/-! ===== PURE 66: a name that is known ===== -/
theorem knownM {n t k w wp N so : Nat} {b : Nat → Nat} {σ τ : hSt} (hn : n ≤ 2000) (h : RdR n b t (k + 1) w wp σ τ) (hK : KK n b k ≠ 0) (hN : N ≤ 10) (e20 : τ.1 0 20 = nI N) (hw : w ≠ 0 → wp < tkP n b k) :
    ∃ y τ', F_X12_known_21 0 (nI so) (nI k) 0 τ = some (y, τ') ∧ frKM τ τ' ∧ LvM n b (k + 1) τ' ∧
      ((∃ i, i < N ∧ τ.2.1 8 i = τ.2.1 6 k ∧ τ.1 9 i = nI so ∧ y = τ.1 10 i ∧ τ' = τ) ∨
       ((∀ i, i < N → ¬ (τ.2.1 8 i = τ.2.1 6 k ∧ τ.1 9 i = nI so)) ∧ (w = 0 → τ'.1 0 15 = nI 4 ∧ τ'.1 0 16 = nI (tkP n b k)) ∧ (w ≠ 0 → τ' = τ))) := by
  obtain ⟨a1, a2, a3, a4, a5, a6⟩ := h
  have hk := a1.2.2.2.2.2.1
  have hQ := a2.1
  obtain ⟨c, c1, c2⟩ := a2.2.1
  have hkc : k < c := Nat.lt_of_succ_lt (cov c1 hk a2.2.2.1)
  obtain ⟨τ2, p1, p2, p3, p4, p5⟩ := wrongM (f := 4) (wp := wp) a2 c2 hkc c1.1 a4 a5 (fun q => ⟨(a6 q).2.1, Or.inl (hw q)⟩) (tkP_30 hn)
  unfold F_X12_known_21
  obtain ⟨x, g1, y, τ', g2, g3⟩ := lp_go (s := S_X12_known_21 0 (nI so) (nI k) τ) (v := 0) N (by rw [fuel_v]; omega)
    (fun i v => v = nI i ∧ ∀ j, j < i → ¬ (τ.2.1 8 j = τ.2.1 6 k ∧ τ.1 9 j = nI so))
    (fun x => ∃ y τ', x = (y, τ') ∧ frKM τ τ' ∧ LvM n b (k + 1) τ' ∧
      ((∃ i, i < N ∧ τ.2.1 8 i = τ.2.1 6 k ∧ τ.1 9 i = nI so ∧ y = τ.1 10 i ∧ τ' = τ) ∨
       ((∀ i, i < N → ¬ (τ.2.1 8 i = τ.2.1 6 k ∧ τ.1 9 i = nI so)) ∧ (w = 0 → τ'.1 0 15 = nI 4 ∧ τ'.1 0 16 = nI (tkP n b k)) ∧ (w ≠ 0 → τ' = τ))))
    ⟨rfl, fun j z => absurd z (by omega)⟩ (fun i v hi hv => by
      obtain ⟨b1, b2⟩ := hv
      subst b1
      have e62 : F_X12_known_62 0 (nI so) (nI k) (nI i) τ = some (.inl (nI (i + 1))) := by
        unfold F_X12_known_62 cL
        rw [nI_1]
      unfold S_X12_known_21 F_X12_known_21b
      rw [e20]
      by_cases hlt : i < N
      · rw [if_neg (nI_ge hlt (by omega)), rM_21 hQ, cG_t (inb_nI (by rw [kM_8]; omega) (by decide)), rM_8 hQ, cG_t (inb_nI (by rw [kM_6]; omega) (by decide)), cl_nI (by omega), cl_nI (by omega)]
        by_cases q : τ.2.1 8 i = τ.2.1 6 k
        · rw [if_pos ((lg_cmp_eq _ _).mpr q), rM_22 hQ, cG_t (inb_nI (by rw [kM_9]; omega) (by decide))]
          by_cases r : τ.1 9 i = nI so
          · right
            rw [if_pos r, rM_23 hQ, cG_t (inb_nI (by rw [kM_10]; omega) (by decide))]
            exact ⟨_, rfl, _, _, rfl, frKM_rfl, a2, Or.inl ⟨i, hlt, q, r, rfl, rfl⟩⟩
          · left
            rw [if_neg r, e62]
            refine ⟨_, hlt, rfl, rfl, fun j hj => ?_⟩
            by_cases z : j = i
            · rw [z]; exact fun u => r u.2
            · exact b2 j (by omega)
        · left
          rw [if_neg (fun z => q ((lg_cmp_eq _ _).mp z)), e62]
          refine ⟨_, hlt, rfl, rfl, fun j hj => ?_⟩
          by_cases z : j = i
          · rw [z]; exact fun u => q u.1
          · exact b2 j (by omega)
      · right
        have : i = N := by omega
        subst this
        rw [if_pos (nI_le (by omega) (by omega)), show F_X12_wrong 0 (4 : Int32) (nI k) τ = F_X12_wrong 0 (nI 4) (nI k) τ from rfl, p1, Option.bind_some]
        exact ⟨_, rfl, _, τ2, rfl, p2, p3, Or.inr ⟨b2, p4, p5⟩⟩)
  exact ⟨y, τ', by rw [g1, g2], g3⟩
theorem oneD_C {n t f j a N : Nat} {b : Nat → Nat} {s : hSt} (h : DdC n b t f j s) (hl : N ≤ (kC a).2) (h10 : (kC a).2 ≤ 10) : ∃ x, F_X4_takeOneOf 37 a (nI N) s = some (x, s) := by
  obtain ⟨x, x1, x2⟩ := indexC (a := a) (N := N) (v := 0) (s := s) hl h10
  have f34 : ∀ z, F_X4_takeOneOf_34 x z = some (if x < 0 then 0 else x, z) := fun _ => rfl
  refine ⟨if x < 0 then 0 else x, ?_⟩
  unfold F_X4_takeOneOf
  rw [cC_t (takeD (x := (2 : Int32)) h), x1, Option.bind_some, h.2.2.2.2.1.1, if_neg (show ¬ nI f = 0 by rcases h.2.2.2.2.1.2 with e | e <;> subst e <;> decide), f34]
theorem oneD_M {n f j : Nat} {b : Nat → Nat} {x : Int32} {s : hSt} (h : DdM n b f j s) : F_X12_known 0 x s = some (-1, s) := by
  unfold F_X12_known cL
  dsimp only
  rw [mustD h, Option.bind_some, if_neg (DdM_pos h).2.1]
theorem both_one {n t k w wp N NN a so : Nat} {b : Nat → Nat} {σ τ : hSt} (hn : n ≤ 2000) (hb : ∀ i, b i < 256) (h : RdR n b t k w wp σ τ) (hl : N ≤ (kC a).2) (h10 : (kC a).2 ≤ 10) (hN : NN ≤ 10) (e20 : τ.1 0 20 = nI NN)
    (hF : w = 0 → ∀ p, vN p → τ.2.1 6 k = c27 p → (∀ i, i < NN → τ.2.1 8 i = c27 p → τ.1 9 i = nI so → ∃ h, h < N ∧ τ.1 10 i = nI h ∧ σ.2.1 a h = c32 p ∧ ∀ h', h' < N → σ.2.1 a h' = c32 p → h' = h) ∧ (∀ h, h < N → σ.2.1 a h = c32 p → ∃ i, i < NN ∧ τ.2.1 8 i = c27 p ∧ τ.1 9 i = nI so)) :
    ∃ x y σ' τ', F_X4_takeOneOf 37 a (nI N) σ = some (x, σ') ∧ F_X12_known 0 (nI so) τ = some (y, τ') ∧ frKC σ σ' ∧ frKM τ τ' ∧
      ((∃ w' wp', KK n b k = 2 ∧ RdR n b t (k + 1) w' wp' σ' τ' ∧ (w' = 0 → w = 0 ∧ ∃ h, h < N ∧ x = nI h ∧ y = nI h)) ∨ DdR n b t σ' τ') := by
  have hk := h.1.2.2.2.2.2.1
  have e11 := h.2.1.2.2.2.1
  obtain ⟨v, σ1, τ1, g1, g2, g3, g4, g5⟩ := both_take (x := 2) hb h (by decide) (by decide) (by decide)
  have e201 : τ1.1 0 20 = nI NN := by rw [g4.2.1 20 (by decide) (by decide) (by decide)]; exact e20
  obtain ⟨x, x1, x2⟩ := indexC (a := a) (N := N) (v := v) (s := σ1) hl h10
  have f34 : ∀ z, F_X4_takeOneOf_34 x z = some (if x < 0 then 0 else x, z) := fun _ => rfl
  have ne : ∀ i, i < 10 → ¬ nI i = (-1 : Int32) ∧ ¬ nI i < 0 := by decide
  unfold F_X4_takeOneOf F_X12_known cL
  dsimp only
  rw [show F_X4_take 37 (2 : Int32) σ = F_X4_take 37 (nI 2) σ from rfl, cC_t g1, x1, Option.bind_some, e11, show F_X12_must 0 (1 : Int32) τ = F_X12_must 0 (nI (mkK 2)) τ from rfl, g2, Option.bind_some]
  rcases g5 with ⟨a1, a2, a3⟩ | ⟨f, j, d1, d2⟩
  · have hw' : w ≠ 0 → wp < tkP n b k := fun q => (h.2.2.2.2.2 q).2.2
    obtain ⟨y, τ2, p1, p2, p3, p4⟩ := knownM (so := so) hn a3 (by rw [a1]; decide) hN e201 hw'
    obtain ⟨ff, kk, q1, q2, q3, q4⟩ := (LvM_tok h.2.1).2.2.2 a1
    have vp : vN (ff, kk) := ⟨q1, q2⟩
    have v32 : v = c32 (ff, kk) := a2.trans q4
    have n27 : τ.2.1 6 k = c27 (ff, kk) := q3
    rw [a3.1.2.2.2.2.2.2, if_pos rfl, a3.1.2.2.2.2.1, nI_pred, a3.2.1.2.2.2.2.2, if_pos (show (0 : Int32) ≤ 0 by decide), p1]
    obtain ⟨σ2, y1, y2, y3, y4, y5⟩ := meanC (f := 4) (j := k) a3.1 (by omega) a3.2.2.1 a3.2.2.2.2.1
    have r1 : σ1.2 = σ.2 := g3.1
    have r9 : τ1.1 9 = τ.1 9 := g4.2.2 9 (by decide)
    have r10 : τ1.1 10 = τ.1 10 := g4.2.2 10 (by decide)
    rw [r1, v32] at x2
    rw [r9, r10, g4.1, n27] at p4
    by_cases w0 : w = 0
    · obtain ⟨F1, F2⟩ := hF w0 (ff, kk) vp n27
      rcases p4 with ⟨i, i1, i2, i3, i4, i5⟩ | ⟨nn, pp, -⟩
      · obtain ⟨h0, h1, h2, h3, h4⟩ := F1 i i1 i2 i3
        subst i5
        rcases x2 with ⟨z1, z2⟩ | ⟨h', z1, z2, z3⟩
        · exact absurd h3 (z2 h0 h1)
        · have := h4 h' z1 z3
          subst this
          have hh : h' < 10 := by omega
          rw [if_neg (by rw [z2]; exact (ne h' hh).1), f34, if_neg (by rw [z2]; exact (ne h' hh).2)]
          exact ⟨_, _, σ1, τ2, rfl, rfl, frKC_T g3, frKM_trans (frKM_N g4) p2, Or.inl ⟨w, wp, a1, a3, fun _ => ⟨w0, h', h1, z2, i4.trans h2⟩⟩⟩
      · rcases x2 with ⟨z1, z2⟩ | ⟨h', z1, z2, z3⟩
        · rw [if_pos z1, show F_X4_mean 37 (4 : Int32) (nI k) σ1 = F_X4_mean 37 (nI 4) (nI k) σ1 from rfl, y1, Option.bind_some, f34]
          obtain ⟨u1, u2⟩ := y4 w0
          obtain ⟨u3, u4⟩ := pp w0
          exact ⟨_, _, σ2, τ2, rfl, rfl, frKC_trans (frKC_T g3) y2, frKM_trans (frKM_N g4) p2, Or.inl ⟨4, tkP n b k, a1, ⟨y3, p3, u1, u3, by decide, fun _ => ⟨u2, u4, tkP_lt (by rw [a1]; decide)⟩⟩, fun z => absurd z (by decide)⟩⟩
        · obtain ⟨i, i1, i2⟩ := F2 h' z1 z3
          exact absurd i2 (nn i i1)
    · have e1 := y5 w0
      have e2 : τ2 = τ1 := by
        rcases p4 with ⟨i, i1, i2, i3, i4, i5⟩ | ⟨-, -, pp⟩
        · exact i5
        · exact pp w0
      subst e1 e2
      by_cases q : x = (-1 : Int32)
      · rw [if_pos q, show F_X4_mean 37 (4 : Int32) (nI k) σ2 = F_X4_mean 37 (nI 4) (nI k) σ2 from rfl, y1, Option.bind_some, f34]
        exact ⟨_, _, σ2, τ2, rfl, rfl, frKC_T g3, frKM_N g4, Or.inl ⟨w, wp, a1, a3, fun z => absurd z w0⟩⟩
      · rw [if_neg q, f34]
        exact ⟨_, _, σ2, τ2, rfl, rfl, frKC_T g3, frKM_N g4, Or.inl ⟨w, wp, a1, a3, fun z => absurd z w0⟩⟩
  · rw [d1.2.2.2.2.1.1, if_neg (show ¬ nI f = 0 by rcases d1.2.2.2.2.1.2 with e | e <;> subst e <;> decide), f34, if_neg (DdM_pos d2).2.1]
    exact ⟨_, _, σ1, τ1, rfl, rfl, frKC_T g3, frKM_N g4, Or.inr ⟨f, j, d1, d2⟩⟩
theorem NmR_hill {H M : Nat} {F : Nat → (Nat → Nat) × Nat} {σ τ : hSt} (h : NmR H M F σ τ) (hH : H ≤ 6) {p : (Nat → Nat) × Nat} (hp : vN p) :
    (∀ i, i < H + M → τ.2.1 8 i = c27 p → τ.1 9 i = nI 0 → ∃ h, h < H ∧ τ.1 10 i = nI h ∧ σ.2.1 42 h = c32 p ∧ ∀ h', h' < H → σ.2.1 42 h' = c32 p → h' = h) ∧ (∀ h, h < H → σ.2.1 42 h = c32 p → ∃ i, i < H + M ∧ τ.2.1 8 i = c27 p ∧ τ.1 9 i = nI 0) := by
  obtain ⟨n1, n2, n3, n4, n5⟩ := h
  have back : ∀ h, h < H → σ.2.1 42 h = c32 p → ∃ i, i < H + M ∧ τ.2.1 8 i = c27 p ∧ τ.1 9 i = nI 0 ∧ τ.1 10 i = nI h := fun h hh e => by
    obtain ⟨i, i1, i2, i3⟩ := n4 h hh
    refine ⟨i, i1, ?_, i2, i3⟩
    rcases n3 i i1 with ⟨-, x, x1, x2, x3⟩ | ⟨y, -⟩
    · have : h = x := (nI_eq (by omega) (by omega)).mp (i3.symm.trans x2)
      subst this
      rw [(n1 i i1).2]
      exact (nm_iff (n1 i i1).1 hp).mp (x3.symm.trans e)
    · rw [i2] at y
      exact absurd y (by decide)
  refine ⟨fun i i1 i2 i3 => ?_, fun h hh e => ?_⟩
  · rcases n3 i i1 with ⟨-, x, x1, x2, x3⟩ | ⟨y, -⟩
    · have e : c32 (F i) = c32 p := (nm_iff (n1 i i1).1 hp).mpr ((n1 i i1).2.symm.trans i2)
      refine ⟨x, x1, x2, x3.trans e, fun h' hh' e' => ?_⟩
      obtain ⟨i', j1, j2, j3, j4⟩ := back h' hh' e'
      have : i' = i := n2 i' i j1 i1 ((n1 i' j1).2.symm.trans (j2.trans (i2.symm.trans (n1 i i1).2)))
      subst this
      exact (nI_eq (by omega) (by omega)).mp (j4.symm.trans x2)
    · rw [i3] at y
      exact absurd y (by decide)
  · obtain ⟨i, i1, i2, i3, -⟩ := back h hh e
    exact ⟨i, i1, i2, i3⟩
theorem NmR_news {H M : Nat} {F : Nat → (Nat → Nat) × Nat} {σ τ : hSt} (h : NmR H M F σ τ) (hM : M ≤ 4) {p : (Nat → Nat) × Nat} (hp : vN p) :
    (∀ i, i < H + M → τ.2.1 8 i = c27 p → τ.1 9 i = nI 1 → ∃ h, h < M ∧ τ.1 10 i = nI h ∧ σ.2.1 43 h = c32 p ∧ ∀ h', h' < M → σ.2.1 43 h' = c32 p → h' = h) ∧ (∀ h, h < M → σ.2.1 43 h = c32 p → ∃ i, i < H + M ∧ τ.2.1 8 i = c27 p ∧ τ.1 9 i = nI 1) := by
  obtain ⟨n1, n2, n3, n4, n5⟩ := h
  have back : ∀ h, h < M → σ.2.1 43 h = c32 p → ∃ i, i < H + M ∧ τ.2.1 8 i = c27 p ∧ τ.1 9 i = nI 1 ∧ τ.1 10 i = nI h := fun h hh e => by
    obtain ⟨i, i1, i2, i3⟩ := n5 h hh
    refine ⟨i, i1, ?_, i2, i3⟩
    rcases n3 i i1 with ⟨y, -⟩ | ⟨-, x, x1, x2, x3⟩
    · rw [i2] at y
      exact absurd y (by decide)
    · have : h = x := (nI_eq (by omega) (by omega)).mp (i3.symm.trans x2)
      subst this
      rw [(n1 i i1).2]
      exact (nm_iff (n1 i i1).1 hp).mp (x3.symm.trans e)
  refine ⟨fun i i1 i2 i3 => ?_, fun h hh e => ?_⟩
  · rcases n3 i i1 with ⟨y, -⟩ | ⟨-, x, x1, x2, x3⟩
    · rw [i3] at y
      exact absurd y (by decide)
    · have e : c32 (F i) = c32 p := (nm_iff (n1 i i1).1 hp).mpr ((n1 i i1).2.symm.trans i2)
      refine ⟨x, x1, x2, x3.trans e, fun h' hh' e' => ?_⟩
      obtain ⟨i', j1, j2, j3, j4⟩ := back h' hh' e'
      have : i' = i := n2 i' i j1 i1 ((n1 i' j1).2.symm.trans (j2.trans (i2.symm.trans (n1 i i1).2)))
      subst this
      exact (nI_eq (by omega) (by omega)).mp (j4.symm.trans x2)
  · obtain ⟨i, i1, i2, i3, -⟩ := back h hh e
    exact ⟨i, i1, i2, i3⟩
theorem hillB {n t H M : Nat} {b : Nat → Nat} {F : Nat → (Nat → Nat) × Nat} {I : Nat → Nat → Nat → Prop} {σ τ : hSt} (hn : n ≤ 2000) (hb : ∀ i, b i < 256) (h : Bth n b t I σ τ) (hH : H ≤ 6) (hM : M ≤ 4) (e20 : τ.1 0 20 = nI (H + M)) (hF : ∀ k w wp, I k w wp → w = 0 → NmR H M F σ τ) :
    ∃ x y σ' τ', F_X4_takeOneOf 37 42 (nI H) σ = some (x, σ') ∧ F_X12_known 0 (nI 0) τ = some (y, τ') ∧ frKC σ σ' ∧ frKM τ τ' ∧
      Bth n b t (fun k' w' wp' => ∃ k w wp, k' = k + 1 ∧ I k w wp ∧ (w' = 0 → w = 0 ∧ ∃ h, h < H ∧ x = nI h ∧ y = nI h)) σ' τ' := by
  rcases h with ⟨k, w, wp, i, r⟩ | ⟨f, j, d1, d2⟩
  · obtain ⟨x, y, σ', τ', g, p, q1, q2, z⟩ := both_one (N := H) (NN := H + M) (a := 42) (so := 0) hn hb r (by rw [k42]; exact hH) (by rw [k42]; decide) (by omega) e20 (fun w0 p vp _ => NmR_hill (hF k w wp i w0) hH vp)
    refine ⟨x, y, σ', τ', g, p, q1, q2, ?_⟩
    rcases z with ⟨w', wp', z1, z2, z3⟩ | z
    · exact Or.inl ⟨k + 1, w', wp', ⟨k, w, wp, rfl, i, z3⟩, z2⟩
    · exact Or.inr z
  · obtain ⟨x, e⟩ := oneD_C (a := 42) (N := H) d1 (by rw [k42]; exact hH) (by rw [k42]; decide)
    exact ⟨x, -1, σ, τ, e, oneD_M d2, frKC_rfl, frKM_rfl, Or.inr ⟨f, j, d1, d2⟩⟩
theorem newsB {n t H M : Nat} {b : Nat → Nat} {F : Nat → (Nat → Nat) × Nat} {I : Nat → Nat → Nat → Prop} {σ τ : hSt} (hn : n ≤ 2000) (hb : ∀ i, b i < 256) (h : Bth n b t I σ τ) (hH : H ≤ 6) (hM : M ≤ 4) (e20 : τ.1 0 20 = nI (H + M)) (hF : ∀ k w wp, I k w wp → w = 0 → NmR H M F σ τ) :
    ∃ x y σ' τ', F_X4_takeOneOf 37 43 (nI M) σ = some (x, σ') ∧ F_X12_known 0 (nI 1) τ = some (y, τ') ∧ frKC σ σ' ∧ frKM τ τ' ∧
      Bth n b t (fun k' w' wp' => ∃ k w wp, k' = k + 1 ∧ I k w wp ∧ (w' = 0 → w = 0 ∧ ∃ h, h < M ∧ x = nI h ∧ y = nI h)) σ' τ' := by
  rcases h with ⟨k, w, wp, i, r⟩ | ⟨f, j, d1, d2⟩
  · obtain ⟨x, y, σ', τ', g, p, q1, q2, z⟩ := both_one (N := M) (NN := H + M) (a := 43) (so := 1) hn hb r (by rw [k43]; exact hM) (by rw [k43]; decide) (by omega) e20 (fun w0 p vp _ => NmR_news (hF k w wp i w0) hM vp)
    refine ⟨x, y, σ', τ', g, p, q1, q2, ?_⟩
    rcases z with ⟨w', wp', z1, z2, z3⟩ | z
    · exact Or.inl ⟨k + 1, w', wp', ⟨k, w, wp, rfl, i, z3⟩, z2⟩
    · exact Or.inr z
  · obtain ⟨x, e⟩ := oneD_C (a := 43) (N := M) d1 (by rw [k43]; exact hM) (by rw [k43]; decide)
    exact ⟨x, -1, σ, τ, e, oneD_M d2, frKC_rfl, frKM_rfl, Or.inr ⟨f, j, d1, d2⟩⟩
