/-! ===== PURE 65: both readers go on, or both have stopped ===== -/
def eqC (s s' : hSt) : Prop := s'.2.2 = s.2.2 ∧ s'.1 37 = s.1 37 ∧ s'.1 39 = s.1 39 ∧ s'.1 40 = s.1 40 ∧ s'.2.1 41 = s.2.1 41
def eqM (s s' : hSt) : Prop := s'.2.2 = s.2.2 ∧ s'.2.1 6 = s.2.1 6 ∧ (∀ j, 11 ≤ j → j ≤ 16 → j ≠ 12 → s'.1 0 j = s.1 0 j) ∧ ∀ c, 3 ≤ c → c ≤ 5 → s'.1 c = s.1 c
theorem eqC_rfl {s : hSt} : eqC s s := ⟨rfl, rfl, rfl, rfl, rfl⟩
theorem eqM_rfl {s : hSt} : eqM s s := ⟨rfl, rfl, fun _ _ _ _ => rfl, fun _ _ _ => rfl⟩
theorem LvC_e {n t k : Nat} {b : Nat → Nat} {s s' : hSt} (h : LvC n b t k s) (e : eqC s s') : LvC n b t k s' := by
  obtain ⟨h1, h2, h3, h4, h5, h6, h7⟩ := h
  obtain ⟨e1, e2, e3, e4, e5⟩ := e
  exact ⟨by rw [e1]; exact h1, by rw [e1]; exact h2, h3, ⟨TkC_fr h4.1 e3 e4 e5, by rw [e2]; exact h4.2⟩, by rw [e2]; exact h5, h6, by rw [e2]; exact h7⟩
theorem DdC_e {n t f j : Nat} {b : Nat → Nat} {s s' : hSt} (h : DdC n b t f j s) (e : eqC s s') : DdC n b t f j s' := by
  unfold DdC
  rw [e.1, e.2.1]
  exact h
theorem LvM_e {n k : Nat} {b : Nat → Nat} {s s' : hSt} (h : LvM n b k s) (e : eqM s s') : LvM n b k s' := by
  obtain ⟨h1, ⟨c, h2, h3⟩, h4, h5, h6, h7⟩ := h
  obtain ⟨e1, e2, e3, e4⟩ := e
  refine ⟨by rw [e1]; exact h1, ⟨c, h2, fun i hi => ?_⟩, h4, (e3 11 (by decide) (by decide) (by decide)).trans h5, h6, (e3 13 (by decide) (by decide) (by decide)).trans h7⟩
  rw [e4 3 (by decide) (by decide), e4 4 (by decide) (by decide), e4 5 (by decide) (by decide), e2]
  exact h3 i hi
theorem DdM_e {n f j : Nat} {b : Nat → Nat} {s s' : hSt} (h : DdM n b f j s) (e : eqM s s') : DdM n b f j s' := by
  unfold DdM
  rw [e.1, e.2.2.1 11 (by decide) (by decide) (by decide), e.2.2.1 13 (by decide) (by decide) (by decide), e.2.2.1 14 (by decide) (by decide) (by decide)]
  exact h
theorem RdR_e {n t k w wp : Nat} {b : Nat → Nat} {σ τ σ' τ' : hSt} (h : RdR n b t k w wp σ τ) (e : eqC σ σ') (e' : eqM τ τ') : RdR n b t k w wp σ' τ' := by
  obtain ⟨a1, a2, a3, a4, a5, a6⟩ := h
  refine ⟨LvC_e a1 e, LvM_e a2 e', by rw [e.2.1]; exact a3, (e'.2.2.1 15 (by decide) (by decide) (by decide)).trans a4, a5, fun q => ?_⟩
  rw [e.2.1, e'.2.2.1 16 (by decide) (by decide) (by decide)]
  exact a6 q
/-- both go on, and what is known of it; or both have stopped alike -/
def Bth (n : Nat) (b : Nat → Nat) (t : Nat) (I : Nat → Nat → Nat → Prop) (σ τ : hSt) : Prop := (∃ k w wp, I k w wp ∧ RdR n b t k w wp σ τ) ∨ DdR n b t σ τ
theorem Bth_e {n t : Nat} {b : Nat → Nat} {I : Nat → Nat → Nat → Prop} {σ τ σ' τ' : hSt} (h : Bth n b t I σ τ) (e : eqC σ σ') (e' : eqM τ τ') : Bth n b t I σ' τ' := by
  rcases h with ⟨k, w, wp, i, r⟩ | ⟨f, j, d1, d2⟩
  · exact Or.inl ⟨k, w, wp, i, RdR_e r e e'⟩
  · exact Or.inr ⟨f, j, DdC_e d1 e, DdM_e d2 e'⟩
theorem Bth_mono {n t : Nat} {b : Nat → Nat} {I J : Nat → Nat → Nat → Prop} {σ τ : hSt} (h : Bth n b t I σ τ) (hJ : ∀ k w wp, I k w wp → J k w wp) : Bth n b t J σ τ := by
  rcases h with ⟨k, w, wp, i, r⟩ | d
  · exact Or.inl ⟨k, w, wp, hJ _ _ _ i, r⟩
  · exact Or.inr d
theorem Bth_C {n t : Nat} {b : Nat → Nat} {I : Nat → Nat → Nat → Prop} {σ τ : hSt} (h : Bth n b t I σ τ) : HC σ.2.2 ∧ σ.2.2 37 3 = some t ∧ (t = 3 ∨ t = 20) ∧ HM τ.2.2 := by
  rcases h with ⟨k, w, wp, i, r⟩ | ⟨f, j, d1, d2⟩
  · exact ⟨r.1.1, r.1.2.1, r.1.2.2.1, r.2.1.1⟩
  · exact ⟨d1.1, d1.2.1, d1.2.2.1, d2.1⟩
theorem takeB {n t x : Nat} {b : Nat → Nat} {I : Nat → Nat → Nat → Prop} {σ τ : hSt} (hb : ∀ i, b i < 256) (h : Bth n b t I σ τ) (hx : x ∈ vL) (hx0 : x ≠ 0) (hx2 : x < 256) :
    ∃ v σ' τ', F_X4_take 37 (nI x) σ = some (v, σ') ∧ F_X12_must 0 (nI (mkK x)) τ = some τ' ∧ frKC σ σ' ∧ frKM τ τ' ∧ Bth n b t (fun k' w wp => ∃ k, k' = k + 1 ∧ I k w wp ∧ KK n b k = x) σ' τ' := by
  rcases h with ⟨k, w, wp, i, r⟩ | ⟨f, j, d1, d2⟩
  · obtain ⟨v, σ', τ', g, p, q1, q2, z⟩ := both_take hb r hx hx0 hx2
    refine ⟨v, σ', τ', g, p, frKC_T q1, frKM_N q2, ?_⟩
    rcases z with ⟨z1, z2, z3⟩ | z
    · exact Or.inl ⟨k + 1, w, wp, ⟨k, rfl, i, z1⟩, z3⟩
    · exact Or.inr z
  · exact ⟨0, σ, τ, takeD d1, mustD d2, frKC_rfl, frKM_rfl, Or.inr ⟨f, j, d1, d2⟩⟩
theorem numB {n t lo hi : Nat} {b : Nat → Nat} {I : Nat → Nat → Nat → Prop} {σ τ : hSt} (hn : n ≤ 2000) (hb : ∀ i, b i < 256) (h : Bth n b t I σ τ) (hlo : lo < 10000) (hhi : hi < 10000) :
    ∃ x y σ' τ', F_X4_takeNumber 37 (nI lo) (nI hi) σ = some (x, σ') ∧ F_X12_bounded 0 (nI lo) (nI hi) τ = some (y, τ') ∧ frKC σ σ' ∧ frKM τ τ' ∧
      Bth n b t (fun k' w' wp' => ∃ k w wp m, k' = k + 1 ∧ I k w wp ∧ KK n b k = 3 ∧ x = nI m ∧ y = nI m ∧ (w' = 0 → w = 0 ∧ lo ≤ m ∧ m ≤ hi)) σ' τ' := by
  rcases h with ⟨k, w, wp, i, r⟩ | ⟨f, j, d1, d2⟩
  · obtain ⟨x, y, σ', τ', g, p, q1, q2, z⟩ := both_num hn hb r hlo hhi
    refine ⟨x, y, σ', τ', g, p, q1, q2, ?_⟩
    rcases z with ⟨m, w', wp', z1, z2, z3, z4, z5, z6, z7⟩ | z
    · refine Or.inl ⟨k + 1, w', wp', ⟨k, w, wp, m, rfl, i, z1, z3, z4, fun q => ⟨z7 q, ?_⟩⟩, z5⟩
      rcases z6 with ⟨y1, y2, -⟩ | y
      · exact ⟨y1, y2⟩
      · exact absurd q y
    · exact Or.inr z
  · exact ⟨0, _, σ, τ, numD_C d1, numD_M d2, frKC_rfl, frKM_rfl, Or.inr ⟨f, j, d1, d2⟩⟩
/-! a new name -/
theorem newC_49 {v : Int64} {σ : hSt} {n t k w : Nat} {b : Nat → Nat} {s0 : Int32} (h : LvC n b t (k + 1) σ) (e : σ.1 37 7 = nI w) (hw : w < 6) :
    ∃ σ', F_X4_takeNewName_49 37 v s0 σ = some (v, σ') ∧ frKC σ σ' ∧ LvC n b t (k + 1) σ' ∧ ((¬ s0 = 0 ∧ w = 0 ∧ σ'.1 37 7 = nI 3 ∧ σ'.1 37 8 = nI (tkP n b k)) ∨ ((s0 = 0 ∨ w ≠ 0) ∧ σ' = σ)) := by
  have f72 : ∀ z, F_X4_takeNewName_72 v z = some (v, z) := fun _ => rfl
  have hk := h.2.2.2.2.2.1
  unfold F_X4_takeNewName_49
  rw [h.2.2.2.2.2.2, if_pos rfl]
  by_cases q : s0 = 0
  · rw [if_pos q, f72]
    exact ⟨σ, rfl, frKC_rfl, h, Or.inr ⟨Or.inl q, rfl⟩⟩
  · obtain ⟨σ', g1, g2, g3, g4, g5⟩ := meanC (f := 3) (j := k) h (by omega) e hw
    rw [if_neg q, h.2.2.2.2.1, nI_pred, show F_X4_mean 37 (3 : Int32) (nI k) σ = F_X4_mean 37 (nI 3) (nI k) σ from rfl, g1, Option.bind_some, f72]
    refine ⟨σ', rfl, g2, g3, ?_⟩
    by_cases z : w = 0
    · exact Or.inl ⟨q, z, g4 z⟩
    · exact Or.inr ⟨Or.inr z, g5 z⟩
theorem newC_open {v : Int64} {σ σ1 : hSt} {H M t : Nat} (g : F_X4_take 37 (nI 2) σ = some (v, σ1)) (hP : HC σ1.2.2) (h3 : σ1.2.2 37 3 = some t) (ht : t = 3 ∨ t = 20) (hH : H ≤ 6) (hM : M ≤ 4) (eH : σ1.1 t 0 = nI H) (eM : σ1.1 t 3 = nI M) :
    (((∃ i, i < H ∧ σ1.2.1 42 i = v) ∨ ∃ i, i < M ∧ σ1.2.1 43 i = v) ∧ F_X4_takeNewName 37 σ = F_X4_takeNewName_49 37 v 1 σ1) ∨
    (((∀ i, i < H → ¬ σ1.2.1 42 i = v) ∧ ∀ i, i < M → ¬ σ1.2.1 43 i = v) ∧ F_X4_takeNewName 37 σ = F_X4_takeNewName_49 37 v 0 σ1) := by
  obtain ⟨x, x1, x2⟩ := indexC (a := 42) (N := H) (v := v) (s := σ1) (by rw [k42]; exact hH) (by rw [k42]; decide)
  obtain ⟨y, y1, y2⟩ := indexC (a := 43) (N := M) (v := v) (s := σ1) (by rw [k43]; exact hM) (by rw [k43]; decide)
  have ne : ∀ i, i < 10 → ¬ nI i = (-1 : Int32) := by decide
  have E : F_X4_takeNewName 37 σ = (if x = (-1 : Int32) then (if y = (-1 : Int32) then F_X4_takeNewName_49 37 v 0 σ1 else F_X4_takeNewName_49 37 v 1 σ1) else F_X4_takeNewName_49 37 v 1 σ1) := by
    unfold F_X4_takeNewName F_X4_takeNewName_44
    rw [show F_X4_take 37 (2 : Int32) σ = F_X4_take 37 (nI 2) σ from rfl, cC_t g, rC_4_1 hP (c := 37) (by decide), r37 h3 ht, show (37 + 5 : Nat) = 42 from rfl, eH, x1, Option.bind_some, rC_4_2 hP (c := 37) (by decide), r37 h3 ht, show (37 + 6 : Nat) = 43 from rfl, eM, y1, Option.bind_some]
  rw [E]
  rcases x2 with ⟨z1, z2⟩ | ⟨i, z1, z2, z3⟩
  · rw [if_pos z1]
    rcases y2 with ⟨u1, u2⟩ | ⟨i, u1, u2, u3⟩
    · rw [if_pos u1]
      exact Or.inr ⟨⟨z2, u2⟩, rfl⟩
    · rw [if_neg (by rw [u2]; exact ne i (by omega))]
      exact Or.inl ⟨Or.inr ⟨i, u1, u3⟩, rfl⟩
  · rw [if_neg (by rw [z2]; exact ne i (by omega))]
    exact Or.inl ⟨Or.inl ⟨i, z1, z3⟩, rfl⟩
theorem newD_C {n t f j H M : Nat} {b : Nat → Nat} {s : hSt} (h : DdC n b t f j s) (hH : H ≤ 6) (hM : M ≤ 4) (eH : s.1 t 0 = nI H) (eM : s.1 t 3 = nI M) : F_X4_takeNewName 37 s = some (0, s) := by
  have f72 : ∀ z, F_X4_takeNewName_72 0 z = some (0, z) := fun _ => rfl
  have e49 : ∀ x, F_X4_takeNewName_49 37 0 x s = some (0, s) := fun x => by
    unfold F_X4_takeNewName_49
    rw [h.2.2.2.2.1.1, if_neg (show ¬ nI f = 0 by rcases h.2.2.2.2.1.2 with e | e <;> subst e <;> decide), f72]
  rcases newC_open (takeD (x := nI 2) h) h.1 h.2.1 h.2.2.1 hH hM eH eM with ⟨-, q⟩ | ⟨-, q⟩
  · rw [q, e49]
  · rw [q, e49]
theorem newD_M {n f j : Nat} {b : Nat → Nat} {s : hSt} (h : DdM n b f j s) : F_X12_named 0 s = some (s.1 0 11, s) := by
  unfold F_X12_named cL
  dsimp only
  rw [mustD h, Option.bind_some]
  unfold F_X12_named_12
  refine lp_1a ?_
  unfold S_X12_named_12 F_X12_named_12b
  dsimp only
  by_cases q : s.1 0 20 ≤ 0
  · rw [if_pos q]; rfl
  · rw [if_neg q, if_neg (DdM_pos h).1]; rfl
theorem both_new {n t k w wp H M : Nat} {b : Nat → Nat} {F : Nat → (Nat → Nat) × Nat} {σ τ : hSt} (hn : n ≤ 2000) (hb : ∀ i, b i < 256) (h : RdR n b t k w wp σ τ) (hH : H ≤ 6) (hM : M ≤ 4) (eH : σ.1 t 0 = nI H) (eM : σ.1 t 3 = nI M) (e20 : τ.1 0 20 = nI (H + M)) (hF : w = 0 → NmR H M F σ τ) :
    ∃ v σ' τ', F_X4_takeNewName 37 σ = some (v, σ') ∧ F_X12_named 0 τ = some (nI k, τ') ∧ frKC σ σ' ∧ frKM τ τ' ∧
      ((∃ w' wp' p, vN p ∧ v = c32 p ∧ τ.2.1 6 k = c27 p ∧ KK n b k = 2 ∧ RdR n b t (k + 1) w' wp' σ' τ' ∧ (w' = 0 → w = 0 ∧ ∀ i, i < H + M → ¬ c27 (F i) = c27 p)) ∨ DdR n b t σ' τ') := by
  have hk := h.1.2.2.2.2.2.1
  have ht := h.1.2.2.1
  have e11 := h.2.1.2.2.2.1
  obtain ⟨t1, t2, t3⟩ := t_ok ht
  obtain ⟨v, σ1, τ1, g1, g2, g3, g4, g5⟩ := both_take (x := 2) hb h (by decide) (by decide) (by decide)
  have r1 : σ1.2 = σ.2 := g3.1
  have hP1 : HC σ1.2.2 := by rw [r1]; exact h.1.1
  have hp3 : σ1.2.2 37 3 = some t := by rw [r1]; exact h.1.2.1
  have eH1 : σ1.1 t 0 = nI H := by rw [g3.2.2 t (by omega)]; exact eH
  have eM1 : σ1.1 t 3 = nI M := by rw [g3.2.2 t (by omega)]; exact eM
  have e201 : τ1.1 0 20 = nI (H + M) := by rw [g4.2.1 20 (by decide) (by decide) (by decide)]; exact e20
  have mE : F_X12_named 0 τ = F_X12_named_12 0 (nI k) 0 τ1 := by
    unfold F_X12_named cL
    dsimp only
    rw [e11, show F_X12_must 0 (1 : Int32) τ = F_X12_must 0 (nI (mkK 2)) τ from rfl, g2, Option.bind_some]
  have cE := newC_open g1 hP1 hp3 ht hH hM eH1 eM1
  rcases g5 with ⟨a1, a2, a3⟩ | d
  · -- both go on
    have hw' : w ≠ 0 → wp < tkP n b k := fun q => (h.2.2.2.2.2 q).2.2
    obtain ⟨τ2, p1, p2, p3, p4⟩ := namedM hn a3 (by rw [a1]; decide) (show H + M ≤ 10 by omega) e201 hw'
    obtain ⟨ff, kk, q1, q2, q3, q4⟩ := (LvM_tok h.2.1).2.2.2 a1
    have vp : vN (ff, kk) := ⟨q1, q2⟩
    have v32 : v = c32 (ff, kk) := a2.trans q4
    have n27 : τ.2.1 6 k = c27 (ff, kk) := q3
    have n27' : τ1.2.1 6 k = c27 (ff, kk) := by rw [g4.1]; exact n27
    rw [mE, p1]
    -- twice in the class is twice in the model
    have tw : w = 0 → (((∃ i, i < H ∧ σ1.2.1 42 i = v) ∨ ∃ i, i < M ∧ σ1.2.1 43 i = v) ↔ ∃ i, i < H + M ∧ τ1.2.1 8 i = τ1.2.1 6 k) := fun w0 => by
      obtain ⟨n1, n2, n3, n4, n5⟩ := hF w0
      rw [r1, g4.1, n27, v32]
      constructor
      · rintro (⟨i, i1, i2⟩ | ⟨i, i1, i2⟩)
        · obtain ⟨j, j1, j2, j3⟩ := n4 i i1
          refine ⟨j, j1, ?_⟩
          rcases n3 j j1 with ⟨-, x, x1, x2, x3⟩ | ⟨y1, -⟩
          · have : i = x := (nI_eq (by omega) (by omega)).mp (j3.symm.trans x2)
            subst this
            rw [(n1 j j1).2]
            exact (nm_iff (n1 j j1).1 vp).mp (x3.symm.trans i2)
          · rw [j2] at y1
            exact absurd y1 (by decide)
        · obtain ⟨j, j1, j2, j3⟩ := n5 i i1
          refine ⟨j, j1, ?_⟩
          rcases n3 j j1 with ⟨y1, -⟩ | ⟨-, x, x1, x2, x3⟩
          · rw [j2] at y1
            exact absurd y1 (by decide)
          · have : i = x := (nI_eq (by omega) (by omega)).mp (j3.symm.trans x2)
            subst this
            rw [(n1 j j1).2]
            exact (nm_iff (n1 j j1).1 vp).mp (x3.symm.trans i2)
      · rintro ⟨j, j1, j2⟩
        have e : c32 (F j) = c32 (ff, kk) := (nm_iff (n1 j j1).1 vp).mpr ((n1 j j1).2.symm.trans j2)
        rcases n3 j j1 with ⟨-, x, x1, x2, x3⟩ | ⟨-, x, x1, x2, x3⟩
        · exact Or.inl ⟨x, x1, x3.trans e⟩
        · exact Or.inr ⟨x, x1, x3.trans e⟩
    have k1w : σ1.1 37 7 = nI w := a3.2.2.1
    have fin : ∀ s0 : Int32, F_X4_takeNewName 37 σ = F_X4_takeNewName_49 37 v s0 σ1 → (s0 = 0 ↔ ¬ ((∃ i, i < H ∧ σ1.2.1 42 i = v) ∨ ∃ i, i < M ∧ σ1.2.1 43 i = v)) →
        ∃ v σ' τ', F_X4_takeNewName 37 σ = some (v, σ') ∧ some (nI k, τ2) = some (nI k, τ') ∧ frKC σ σ' ∧ frKM τ τ' ∧
          ((∃ w' wp' p, vN p ∧ v = c32 p ∧ τ.2.1 6 k = c27 p ∧ KK n b k = 2 ∧ RdR n b t (k + 1) w' wp' σ' τ' ∧ (w' = 0 → w = 0 ∧ ∀ i, i < H + M → ¬ c27 (F i) = c27 p)) ∨ DdR n b t σ' τ') := fun s0 hs hi => by
      obtain ⟨σ2, y1, y2, y3, y4⟩ := newC_49 (v := v) (s0 := s0) a3.1 k1w a3.2.2.2.2.1
      refine ⟨v, σ2, τ2, hs.trans y1, rfl, frKC_trans (frKC_T g3) y2, frKM_trans (frKM_N g4) p2, Or.inl ?_⟩
      rcases p4 with ⟨w0, e⟩ | ⟨w0, nn, e⟩ | ⟨w0, ex, x1, x2⟩
      · have e' : σ2 = σ1 := by
          rcases y4 with ⟨_, z, _⟩ | ⟨_, z⟩
          · exact absurd z w0
          · exact z
        subst e e'
        exact ⟨w, wp, (ff, kk), vp, v32, n27, a1, a3, fun z => absurd z w0⟩
      · have nt : ¬ ((∃ i, i < H ∧ σ1.2.1 42 i = v) ∨ ∃ i, i < M ∧ σ1.2.1 43 i = v) := fun z => by
          obtain ⟨i, i1, i2⟩ := (tw w0).mp z
          exact nn i i1 i2
        have e' : σ2 = σ1 := by
          rcases y4 with ⟨z, _, _⟩ | ⟨_, z⟩
          · exact absurd (hi.mpr nt) z
          · exact z
        subst e e'
        refine ⟨w, wp, (ff, kk), vp, v32, n27, a1, a3, fun _ => ⟨w0, fun i i1 i2 => nn i i1 ?_⟩⟩
        rw [n27', ← i2]
        obtain ⟨n1, -⟩ := hF w0
        rw [g4.1]
        exact (n1 i i1).2
      · have ys : ¬ s0 = 0 := fun z => hi.mp z ((tw w0).mpr ex)
        rcases y4 with ⟨_, _, z1, z2⟩ | ⟨z | z, _⟩
        · exact ⟨3, tkP n b k, (ff, kk), vp, v32, n27, a1, ⟨y3, p3, z1, x1, by decide, fun _ => ⟨z2, x2, tkP_lt (by rw [a1]; decide)⟩⟩, fun z => absurd z (by decide)⟩
        · exact absurd z ys
        · exact absurd w0 z
    rcases cE with ⟨z1, z2⟩ | ⟨z1, z2⟩
    · exact fin 1 z2 ⟨fun z => absurd z (by decide), fun z => absurd z1 z⟩
    · refine fin 0 z2 ⟨fun _ z => ?_, fun _ => rfl⟩
      rcases z with ⟨i, i1, i2⟩ | ⟨i, i1, i2⟩
      · exact z1.1 i i1 i2
      · exact z1.2 i i1 i2
  · -- both have stopped
    obtain ⟨f, j, d1, d2⟩ := d
    have f72 : ∀ z, F_X4_takeNewName_72 v z = some (v, z) := fun _ => rfl
    have e49 : ∀ x, F_X4_takeNewName_49 37 v x σ1 = some (v, σ1) := fun x => by
      unfold F_X4_takeNewName_49
      rw [d1.2.2.2.2.1.1, if_neg (show ¬ nI f = 0 by rcases d1.2.2.2.2.1.2 with e | e <;> subst e <;> decide), f72]
    have m12 : F_X12_named_12 0 (nI k) 0 τ1 = some (nI k, τ1) := by
      unfold F_X12_named_12
      refine lp_1a ?_
      unfold S_X12_named_12 F_X12_named_12b
      dsimp only
      by_cases q : τ1.1 0 20 ≤ 0
      · rw [if_pos q]; rfl
      · rw [if_neg q, if_neg (DdM_pos d2).1]; rfl
    have e : F_X4_takeNewName 37 σ = some (v, σ1) := by
      rcases cE with ⟨-, q⟩ | ⟨-, q⟩
      · rw [q, e49]
      · rw [q, e49]
    exact ⟨v, σ1, τ1, e, by rw [mE, m12], frKC_T g3, frKM_N g4, Or.inr ⟨f, j, d1, d2⟩⟩
theorem newB {n t H M : Nat} {b : Nat → Nat} {F : Nat → (Nat → Nat) × Nat} {I : Nat → Nat → Nat → Prop} {σ τ : hSt} (hn : n ≤ 2000) (hb : ∀ i, b i < 256) (h : Bth n b t I σ τ) (hH : H ≤ 6) (hM : M ≤ 4) (eH : σ.1 t 0 = nI H) (eM : σ.1 t 3 = nI M) (e20 : τ.1 0 20 = nI (H + M)) (hF : ∀ k w wp, I k w wp → w = 0 → NmR H M F σ τ) :
    ∃ v σ' τ' k0, F_X4_takeNewName 37 σ = some (v, σ') ∧ F_X12_named 0 τ = some (nI k0, τ') ∧ k0 ≤ 400 ∧ frKC σ σ' ∧ frKM τ τ' ∧
      Bth n b t (fun k' w' wp' => ∃ w wp p, k' = k0 + 1 ∧ I k0 w wp ∧ KK n b k0 = 2 ∧ vN p ∧ v = c32 p ∧ τ.2.1 6 k0 = c27 p ∧ (w' = 0 → w = 0 ∧ ∀ i, i < H + M → ¬ c27 (F i) = c27 p)) σ' τ' := by
  rcases h with ⟨k, w, wp, i, r⟩ | ⟨f, j, d1, d2⟩
  · obtain ⟨v, σ', τ', g, p, q1, q2, z⟩ := both_new hn hb r hH hM eH eM e20 (hF k w wp i)
    refine ⟨v, σ', τ', k, g, p, r.1.2.2.2.2.2.1, q1, q2, ?_⟩
    rcases z with ⟨w', wp', p, z1, z2, z3, z4, z5, z6⟩ | z
    · exact Or.inl ⟨k + 1, w', wp', ⟨w, wp, p, rfl, i, z4, z1, z2, z3, z6⟩, z5⟩
    · exact Or.inr z
  · obtain ⟨k0, e0, e1⟩ := d2.2.1
    exact ⟨0, σ, τ, k0, newD_C d1 hH hM eH eM, by rw [newD_M d2, e0], e1, frKC_rfl, frKM_rfl, Or.inr ⟨f, j, d1, d2⟩⟩
