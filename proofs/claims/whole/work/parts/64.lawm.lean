/-! ===== PURE 29: the law's value in the model ===== -/
/-- the law's branches in the model, from k to e -/
def mLaw (G : Nat → Nat → Int32) : Nat → Nat → List (Ops × Ops × Ops) → Ops → Prop
  | k, e, [], z => ∃ a, G 25 k = 0 ∧ G 28 k = nI a ∧ G 29 k = nI (a + z.length) ∧ mOps (G 30) (G 31) a z ∧ a + z.length ≤ 840 ∧ opsOk 16 z 0 1 ∧ k + 1 = e ∧ e ≤ 260
  | k, e, q :: bs, z => (∃ a, ¬ G 25 k = 0 ∧ G 26 k = nI a ∧ G 27 k = nI (a + q.1.length) ∧ G 28 k = nI (a + q.1.length + q.2.1.length) ∧ G 29 k = nI (a + q.1.length + q.2.1.length + q.2.2.length) ∧
      mOps (G 30) (G 31) a q.1 ∧ mOps (G 30) (G 31) (a + q.1.length) q.2.1 ∧ mOps (G 30) (G 31) (a + q.1.length + q.2.1.length) q.2.2 ∧ a + q.1.length + q.2.1.length + q.2.2.length ≤ 840 ∧ (opsOk 16 q.1 0 1 ∧ opsOk 16 q.2.1 0 1 ∧ opsOk 16 q.2.2 0 1)) ∧ k + 1 < e ∧ mLaw G (k + 1) e bs z
/-- what the law's value leaves in the model: all but pile and isBroken -/
def frE (τ τ' : hSt) : Prop := τ'.2 = τ.2 ∧ (∀ j, j ≠ 51 → τ'.1 0 j = τ.1 0 j) ∧ ∀ k, k ≠ 0 → k ≠ 34 → τ'.1 k = τ.1 k
theorem frE_rfl {τ : hSt} : frE τ τ := ⟨rfl, fun _ _ => rfl, fun _ _ _ => rfl⟩
theorem frE_trans {τ τ' τ'' : hSt} (h : frE τ τ') (h' : frE τ' τ'') : frE τ τ'' := ⟨h'.1.trans h.1, fun j q => (h'.2.1 j q).trans (h.2.1 j q), fun k a b => (h'.2.2 k a b).trans (h.2.2 k a b)⟩
theorem frE_A {τ : hSt} {f : Nat → Int32} : frE τ (uA τ 34 f) := ⟨rfl, fun j _ => uA_oth' _ _ _ (by decide), fun k _ b => uA_row _ _ b⟩
theorem frE_B {τ : hSt} {f : Nat → Int32} : frE τ (uI (uA τ 34 f) 0 51 1) := ⟨rfl, fun j q => by rw [uI_ne _ _ (by omega), uA_oth' _ _ _ (by decide)], fun k a b => by rw [uI_row _ _ a, uA_row _ _ b]⟩
/-- a term, its frame and whether it is broken -/
theorem termM_fr {τ : hSt} (hP : HM τ.2.2) {a b : Nat} {os : Ops} (hb : b = a + os.length) (hto : b ≤ 840) (hm : mOps (τ.1 30) (τ.1 31) a os) (hk : opsOk 16 os 0 1) :
    ∃ x τ', F_X12_termOf 0 (nI a) (nI b) τ = some (x, τ') ∧ frE τ τ' ∧ ((opsS (τ.1 33) os [] = some [x] ∧ τ'.1 0 51 = τ.1 0 51) ∨ (opsS (τ.1 33) os [] = none ∧ τ'.1 0 51 = 1)) := by
  subst hb
  obtain ⟨g1, g2⟩ := termM_eq hP hto hm (opsOk_mono (by decide) os 0 1 hk)
  rcases opsS_one (V := τ.1 33) hk with h | ⟨x, h⟩
  · obtain ⟨f', q⟩ := g2 h
    exact ⟨0, _, q, frE_B, Or.inr ⟨h, by rw [uI_I, if_pos ⟨rfl, rfl⟩]⟩⟩
  · obtain ⟨f', q⟩ := g1 x h
    exact ⟨x, _, q, frE_A, Or.inl ⟨h, uA_oth' _ _ _ (by decide)⟩⟩
theorem mLaw_G {G G' : Nat → Nat → Int32} (h : ∀ k, 25 ≤ k → k ≤ 31 → G' k = G k) : ∀ (bs : List (Ops × Ops × Ops)) (z : Ops) (k e : Nat), mLaw G k e bs z → mLaw G' k e bs z
  | [], z, k, e, q => by
    unfold mLaw at q ⊢
    rw [h 25 (by decide) (by decide), h 28 (by decide) (by decide), h 29 (by decide) (by decide), h 30 (by decide) (by decide), h 31 (by decide) (by decide)]
    exact q
  | b :: bs, z, k, e, q => by
    unfold mLaw at q ⊢
    rw [h 25 (by decide) (by decide), h 26 (by decide) (by decide), h 27 (by decide) (by decide), h 28 (by decide) (by decide), h 29 (by decide) (by decide), h 30 (by decide) (by decide), h 31 (by decide) (by decide)]
    exact ⟨q.1, q.2.1, mLaw_G h bs z (k + 1) e q.2.2⟩
theorem mLaw_e {G : Nat → Nat → Int32} : ∀ (bs : List (Ops × Ops × Ops)) (z : Ops) (k e : Nat), mLaw G k e bs z → k < e ∧ e ≤ 260
  | [], z, k, e, q => by
    obtain ⟨a, q⟩ := q
    omega
  | b :: bs, z, k, e, q => by
    have := mLaw_e bs z (k + 1) e q.2.2
    omega
theorem tellsM_term {τ : hSt} (hP : HM τ.2.2) {a b k : Nat} {os : Ops} (hk2 : k < 260) (h28 : τ.1 28 k = nI a) (h29 : τ.1 29 k = nI b) (hb : b = a + os.length) (hto : b ≤ 840) (hm : mOps (τ.1 30) (τ.1 31) a os) (hk : opsOk 16 os 0 1) (h51 : τ.1 0 51 = 0) :
    ∃ τ', F_X12_tellsOf_238 0 (nI k) τ = some (val1 (opsS (τ.1 33) os []), τ') ∧ frE τ τ' := by
  obtain ⟨x, τ', y1, y2, y3⟩ := termM_fr hP hb hto hm hk
  refine ⟨τ', ?_, y2⟩
  unfold F_X12_tellsOf_238
  rw [rM_42 hP, cG_t (inb_nI (by rw [kM_28]; omega) (by decide)), rM_43 hP, cG_t (inb_nI (by rw [kM_29]; omega) (by decide)), cl_nI (by omega), h28, h29, cC_t y1]
  rcases y3 with ⟨h, q⟩ | ⟨h, q⟩
  · rw [q, h51, if_pos rfl, h]
    rfl
  · rw [q, if_neg (by decide), h]
    rfl
theorem tellsM_go : ∀ (bs : List (Ops × Ops × Ops)) (z : Ops) (τ : hSt) (k e N : Nat), HM τ.2.2 → mLaw τ.1 k e bs z → e < k + N → τ.1 0 51 = 0 → ∃ τ', lp (S_X12_tellsOf_162 0 (nI e)) N (nI k, τ) = some (lawV (τ.1 33) bs z, τ') ∧ frE τ τ'
  | bs, z, τ, k, e, 0, _, h, hN, _ => by
    have := mLaw_e bs z k e h
    omega
  | [], z, τ, k, e, N + 1, hP, h, hN, h51 => by
    obtain ⟨hke, he⟩ := mLaw_e [] z k e h
    obtain ⟨a, h25, h28, h29, hm, hto, hk, _⟩ := h
    obtain ⟨τ', y1, y2⟩ := tellsM_term hP (by omega) h28 h29 rfl hto hm hk h51
    refine ⟨τ', lp_inr ?_, y2⟩
    unfold S_X12_tellsOf_162 F_X12_tellsOf_162b
    dsimp only
    rw [if_neg (nI_ge hke (by omega)), rM_39 hP, cG_t (inb_nI (by rw [kM_25]; omega) (by decide)), cl_nI (by omega), h25, if_pos rfl, y1]
    rfl
  | (l, r, t) :: bs, z, τ, k, e, N + 1, hP, h, hN, h51 => by
    obtain ⟨hke, he⟩ := mLaw_e ((l, r, t) :: bs) z k e h
    obtain ⟨⟨a, h25, h26, h27, h28, h29, m1, m2, m3, hto, k1, k2, k3⟩, hk1, hrest⟩ := h
    dsimp only at h27 h28 h29 m1 m2 m3 hto k1 k2 k3
    obtain ⟨x, τ1, y1, y2, y3⟩ := termM_fr hP rfl (show a + l.length ≤ 840 by omega) m1 k1
    have hP1 : HM τ1.2.2 := by rw [y2.1]; exact hP
    have e1 : ∀ k, k ≠ 0 → k ≠ 34 → τ1.1 k = τ.1 k := y2.2.2
    obtain ⟨y, τ2, z1, z2, z3⟩ := termM_fr (τ := τ1) (a := a + l.length) (os := r) hP1 rfl (show a + l.length + r.length ≤ 840 by omega) (by rw [e1 30 (by decide) (by decide), e1 31 (by decide) (by decide)]; exact m2) k2
    have hP2 : HM τ2.2.2 := by rw [z2.1]; exact hP1
    have y12 := frE_trans y2 z2
    have e2 : ∀ k, k ≠ 0 → k ≠ 34 → τ2.1 k = τ.1 k := y12.2.2
    rw [e1 33 (by decide) (by decide)] at z3
    have hd : S_X12_tellsOf_162 0 (nI e) (nI k, τ) = if τ2.1 0 51 = 0 then (if x < y then (F_X12_tellsOf_238 0 (nI k) τ2).map (fun x => .inr (x)) else some (.inl (nI (k + 1), τ2))) else some (.inr (0, τ2)) := by
      unfold S_X12_tellsOf_162 F_X12_tellsOf_162b
      dsimp only
      rw [if_neg (nI_ge hke (by omega)), rM_39 hP, cG_t (inb_nI (by rw [kM_25]; omega) (by decide)), cl_nI (by omega), if_neg h25, rM_40 hP, cG_t (inb_nI (by rw [kM_26]; omega) (by decide)), rM_41 hP, cG_t (inb_nI (by rw [kM_27]; omega) (by decide)), h26, h27, cC_t y1, rM_41 hP1, cG_t (inb_nI (by rw [kM_27]; omega) (by decide)), rM_42 hP1, cG_t (inb_nI (by rw [kM_28]; omega) (by decide)), e1 27 (by decide) (by decide), e1 28 (by decide) (by decide), h27, h28, cC_t z1]
      unfold cL
      rw [nI_1]
    unfold lawV
    dsimp only
    have broken : τ2.1 0 51 = 1 → (opsS (τ.1 33) l [] = none ∨ opsS (τ.1 33) r [] = none) → ∃ τ', lp (S_X12_tellsOf_162 0 (nI e)) (N + 1) (nI k, τ) = some ((match opsS (τ.1 33) l [], opsS (τ.1 33) r [] with | some (x :: _), some (y :: _) => if x < y then val1 (opsS (τ.1 33) t []) else lawV (τ.1 33) bs z | _, _ => 0), τ') ∧ frE τ τ' := fun b q => by
      refine ⟨τ2, ?_, y12⟩
      rw [b, if_neg (by decide)] at hd
      rw [lp_inr hd]
      rcases q with q | q
      · rw [q]
      · rw [q]
        cases opsS (τ.1 33) l [] with
        | none => rfl
        | some st => cases st <;> rfl
    rcases z3 with ⟨h2, q2⟩ | ⟨h2, q2⟩
    · rcases y3 with ⟨h1, q1⟩ | ⟨h1, q1⟩
      · rw [h1, h2]
        dsimp only
        have b : τ2.1 0 51 = 0 := by rw [q2, q1, h51]
        rw [if_pos b] at hd
        by_cases hxy : x < y
        · rw [if_pos hxy] at hd ⊢
          obtain ⟨τ', w1, w2⟩ := tellsM_term (τ := τ2) (k := k) (a := a + l.length + r.length) (os := t) hP2 (by omega) (by rw [e2 28 (by decide) (by decide)]; exact h28) (by rw [e2 29 (by decide) (by decide)]; exact h29) rfl hto (by rw [e2 30 (by decide) (by decide), e2 31 (by decide) (by decide)]; exact m3) k3 b
          rw [w1, e2 33 (by decide) (by decide)] at hd
          exact ⟨τ', lp_inr hd, frE_trans y12 w2⟩
        · rw [if_neg hxy] at hd ⊢
          rw [lp_inl hd]
          obtain ⟨τ', w1, w2⟩ := tellsM_go bs z τ2 (k + 1) e N hP2 (mLaw_G (fun j a b => e2 j (by omega) (by omega)) bs z _ _ hrest) (by omega) b
          rw [e2 33 (by decide) (by decide)] at w1
          exact ⟨τ', w1, frE_trans y12 w2⟩
      · exact broken (by rw [q2, q1]) (Or.inl h1)
    · exact broken q2 (Or.inr h2)
