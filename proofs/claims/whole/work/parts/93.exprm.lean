/-! ===== PURE 58: the reader's first steps in the model ===== -/
def vL : List Nat := [0, 1, 2, 3, 59, 61, 43, 45, 42, 47, 60, 40, 41, 128, 129, 130, 131, 132, 133, 134, 135, 136, 137, 138, 139, 140, 141, 142, 143, 144, 145, 146]
theorem mkK_inj : ∀ x, x ∈ vL → ∀ y, y ∈ vL → mkK x = mkK y → x = y := by decide +kernel
theorem mkK_lt : ∀ x, x ∈ vL → mkK x < 39 := by decide +kernel
theorem KK_v {n : Nat} {b : Nat → Nat} (j : Nat) : KK n b j ∈ vL := by
  have w : ∀ f k, wK f k ∈ vL := fun f k => by
    by_cases h : ∃ w, w < 19 ∧ mch f k w
    · obtain ⟨w, w1, w2⟩ := h
      rw [wK_y w1 w2]
      have : ∀ w, w < 19 → 128 + w ∈ vL := by decide
      exact this w w1
    · rw [wK_n h]
      decide
  unfold KK tkK
  split
  · decide
  · split
    · split
      · decide
      · exact w _ _
    · split
      · split <;> decide
      · split
        · rename_i h
          have h : b (tkP n b j) ∈ [59, 61, 43, 45, 42, 47, 60, 40, 41] := by simpa [isSg] using h
          have : ∀ c, c ∈ [59, 61, 43, 45, 42, 47, 60, 40, 41] → c ∈ vL := by decide
          exact this _ h
        · decide
def CvM (n : Nat) (b : Nat → Nat) (c : Nat) : Prop := c ≤ 401 ∧ (c = 401 ∨ ∃ e, e + 1 = c ∧ KK n b e = 0)
def LvM (n : Nat) (b : Nat → Nat) (k : Nat) (s : hSt) : Prop := HM s.2.2 ∧ (∃ c, CvM n b c ∧ TkM n b c s) ∧ (∀ j, j < k → KK n b j ≠ 0) ∧ s.1 0 11 = nI k ∧ k ≤ 400 ∧ s.1 0 13 = 0
def DdM (n : Nat) (b : Nat → Nat) (f j : Nat) (s : hSt) : Prop := HM s.2.2 ∧ (∃ k, s.1 0 11 = nI k ∧ k ≤ 400) ∧ (s.1 0 13 = nI f ∧ (f = 1 ∨ f = 2)) ∧ s.1 0 14 = nI (tkP n b j)
theorem cov {n k c : Nat} {b : Nat → Nat} (h : CvM n b c) (hk : k ≤ 400) (hn : ∀ j, j < k → KK n b j ≠ 0) : k < c := by
  obtain ⟨h1, h2 | ⟨e, e1, e2⟩⟩ := h
  · omega
  · rcases Nat.lt_or_ge k c with q | q
    · exact q
    · exact absurd e2 (hn e (by omega))
theorem LvM_tok {n k : Nat} {b : Nat → Nat} {s : hSt} (h : LvM n b k s) : s.1 3 k = nI (mkK (KK n b k)) ∧ s.1 4 k = nI (tkP n b k) ∧ (KK n b k = 3 → s.1 5 k = VV n b k ∧ ∃ v, v < 10000 ∧ VV n b k = nI v) ∧
    (KK n b k = 2 → ∃ f k', k' ≤ 8 ∧ (∀ j, j < k' → 97 ≤ f j ∧ f j ≤ 122) ∧ s.2.1 6 k = Int64.ofNat (an 27 f k') ∧ tkV n b (tkP n b k) = Int64.ofNat (an 32 f k')) := by
  obtain ⟨h1, ⟨c, h2, h3⟩, h4, h5, h6, h7⟩ := h
  obtain ⟨a1, a2, a3, a4⟩ := h3 k (cov h2 h6 h4)
  refine ⟨a1, a2, fun q => ?_, a4⟩
  obtain ⟨v, v1, v2, v3⟩ := a3 q
  obtain ⟨v', w1, w2, w3⟩ := VV_3 q
  have : v = v' := of64 (by omega) (by omega) (v3.symm.trans w3)
  subst this
  exact ⟨v2.trans w2.symm, v, v1, w2⟩
theorem isA {n k w : Nat} {b : Nat → Nat} {s : hSt} (h : LvM n b k s) (hw : w ∈ vL) : F_X12_is 0 (nI (mkK w)) s = some (if KK n b k = w then 1 else 0) := by
  obtain ⟨t1, -⟩ := LvM_tok h
  obtain ⟨h1, h2, h4, h5, h6, h7⟩ := h
  have f24 : F_X12_is_24 s = some 0 := rfl
  have f25 : F_X12_is_25 1 s = some 1 := rfl
  have l1 := mkK_lt w hw
  have l2 := mkK_lt _ (KK_v (n := n) (b := b) k)
  unfold F_X12_is
  rw [h7, if_pos rfl, rM_5 h1, h5, cG_t (inb_nI (by rw [kM_3]; omega) (by decide)), cl_nI (by omega), t1, f24, f25]
  by_cases q : KK n b k = w
  · rw [if_pos (by rw [q]), if_pos q]
  · rw [if_neg (fun z => q (mkK_inj _ (KK_v k) _ hw ((nI_eq (by omega) (by omega)).mp z))), if_neg q]
theorem isD {n f j : Nat} {b : Nat → Nat} {x : Int32} {s : hSt} (h : DdM n b f j s) : F_X12_is 0 x s = some 0 := by
  obtain ⟨h1, h2, ⟨h3, h4⟩, h5⟩ := h
  unfold F_X12_is
  rw [h3, if_neg (show ¬ nI f = 0 by rcases h4 with e | e <;> subst e <;> decide)]
  rfl
/-- what the model's reader changes as it goes -/
def frN (s s' : hSt) : Prop := s'.2 = s.2 ∧ (∀ j, j ≠ 11 → j ≠ 13 → j ≠ 14 → s'.1 0 j = s.1 0 j) ∧ ∀ k, k ≠ 0 → s'.1 k = s.1 k
theorem frN_rfl {s : hSt} : frN s s := ⟨rfl, fun _ _ _ _ => rfl, fun _ _ => rfl⟩
theorem frN_trans {s s' s'' : hSt} (h : frN s s') (h' : frN s' s'') : frN s s'' := ⟨h'.1.trans h.1, fun j a c d => (h'.2.1 j a c d).trans (h.2.1 j a c d), fun k a => (h'.2.2 k a).trans (h.2.2 k a)⟩
theorem mfailA {n k f : Nat} {b : Nat → Nat} {s : hSt} (h : LvM n b k s) (hf : f = 1 ∨ f = 2) : ∃ s', F_X12_fail 0 (nI f) s = some s' ∧ DdM n b f k s' ∧ frN s s' := by
  obtain ⟨-, t2, -⟩ := LvM_tok h
  obtain ⟨h1, h2, h4, h5, h6, h7⟩ := h
  have h1' : HM (uI s 0 13 (nI f)).2.2 := h1
  unfold F_X12_fail
  rw [h7, if_pos (show (0 : Int32) ≤ 0 by decide)]
  unfold cL
  dsimp only
  rw [rM_6 h1', uI_ne _ _ (show ¬ (0 = 0 ∧ 11 = 13) by decide), h5, cG_t (inb_nI (by rw [kM_4]; omega) (by decide)), cl_nI (by omega), uI_row _ _ (show (4 : Nat) ≠ 0 by decide), t2]
  refine ⟨_, rfl, ⟨h1, ⟨k, ?_, h6⟩, ⟨?_, hf⟩, ?_⟩, rfl, fun j a c d => ?_, fun k a => ?_⟩
  · rw [uI_ne _ _ (by omega), uI_ne _ _ (by omega)]; exact h5
  · rw [uI_ne _ _ (by omega), uI_I, if_pos ⟨rfl, rfl⟩]
  · rw [uI_I, if_pos ⟨rfl, rfl⟩]
  · rw [uI_ne _ _ (by omega), uI_ne _ _ (by omega)]
  · rw [uI_row _ _ a, uI_row _ _ a]
theorem DdM_pos {n f j : Nat} {b : Nat → Nat} {s : hSt} (h : DdM n b f j s) : ¬ s.1 0 13 = 0 ∧ ¬ s.1 0 13 ≤ 0 ∧ 0 < s.1 0 13 := by
  rw [h.2.2.1.1]
  rcases h.2.2.1.2 with e | e <;> subst e <;> decide
theorem mfailD {n f j : Nat} {b : Nat → Nat} {x : Int32} {s : hSt} (h : DdM n b f j s) : F_X12_fail 0 x s = some s := by
  unfold F_X12_fail
  rw [if_neg (DdM_pos h).2.1]
theorem LvM_fr {n k : Nat} {b : Nat → Nat} {s s' : hSt} (h : LvM n b k s) (e2 : s'.2 = s.2) (e : s'.1 0 11 = s.1 0 11) (e' : s'.1 0 13 = s.1 0 13) (er : ∀ c, 3 ≤ c → c ≤ 5 → s'.1 c = s.1 c) : LvM n b k s' := by
  obtain ⟨h1, ⟨c, h2, h3⟩, h4, h5, h6, h7⟩ := h
  refine ⟨by rw [e2]; exact h1, ⟨c, h2, fun i hi => ?_⟩, h4, e.trans h5, h6, e'.trans h7⟩
  rw [er 3 (by decide) (by decide), er 4 (by decide) (by decide), er 5 (by decide) (by decide), e2]
  exact h3 i hi
theorem DdM_fr {n f j : Nat} {b : Nat → Nat} {s s' : hSt} (h : DdM n b f j s) (e2 : s'.2 = s.2) (e : s'.1 0 11 = s.1 0 11) (e' : s'.1 0 13 = s.1 0 13) (e4 : s'.1 0 14 = s.1 0 14) : DdM n b f j s' := by
  unfold DdM
  rw [e2, e, e', e4]
  exact h
theorem goA {n k : Nat} {b : Nat → Nat} {s : hSt} (h : LvM n b k s) (h0 : KK n b k ≠ 0) : ∃ s', F_X12_goesOn 0 s = some s' ∧ frN s s' ∧ ((k < 400 ∧ LvM n b (k + 1) s') ∨ (k = 400 ∧ DdM n b 2 k s')) := by
  have hA := h
  obtain ⟨h1, h2, h4, h5, h6, h7⟩ := h
  have f28 : ∀ z, F_X12_goesOn_28 z = some z := fun _ => rfl
  unfold F_X12_goesOn
  rw [h5]
  by_cases q : k = 400
  · obtain ⟨s', g1, g2, g3⟩ := mfailA (f := 2) hA (Or.inr rfl)
    rw [if_pos (show nI k = (400 : Int32) from congrArg nI q), show F_X12_fail 0 (2 : Int32) s = F_X12_fail 0 (nI 2) s from rfl, g1, Option.bind_some, f28]
    exact ⟨s', rfl, g3, Or.inr ⟨q, g2⟩⟩
  · rw [if_neg (show ¬ nI k = (400 : Int32) from fun z => q ((nI_eq (b := 400) (by omega) (by decide)).mp z)), nI_1]
    unfold cL
    dsimp only
    rw [f28]
    have f : frN s (uI s 0 11 (nI (k + 1))) := ⟨rfl, fun j a _ _ => uI_ne _ _ (by omega), fun k a => uI_row _ _ a⟩
    refine ⟨_, rfl, f, Or.inl ⟨by omega, h1, ?_, fun j hj => ?_, ?_, by omega, ?_⟩⟩
    · obtain ⟨c, c1, c2⟩ := h2
      refine ⟨c, c1, fun i hi => ?_⟩
      rw [uI_row _ _ (by decide), uI_row _ _ (by decide), uI_row _ _ (by decide)]
      exact c2 i hi
    · by_cases z : j = k
      · rw [z]; exact h0
      · exact h4 j (by omega)
    · rw [uI_I, if_pos ⟨rfl, rfl⟩]
    · rw [uI_ne _ _ (by omega)]; exact h7
theorem goD {n f j : Nat} {b : Nat → Nat} {s : hSt} (h : DdM n b f j s) : ∃ s', F_X12_goesOn 0 s = some s' ∧ frN s s' ∧ DdM n b f j s' := by
  have hA := h
  obtain ⟨h1, ⟨k, h2, h3⟩, h4, h5⟩ := h
  have f28 : ∀ z, F_X12_goesOn_28 z = some z := fun _ => rfl
  unfold F_X12_goesOn
  rw [h2]
  by_cases q : k = 400
  · rw [if_pos (show nI k = (400 : Int32) from congrArg nI q), mfailD hA, Option.bind_some, f28]
    exact ⟨s, rfl, frN_rfl, hA⟩
  · rw [if_neg (show ¬ nI k = (400 : Int32) from fun z => q ((nI_eq (b := 400) (by omega) (by decide)).mp z)), nI_1]
    unfold cL
    dsimp only
    rw [f28]
    refine ⟨_, rfl, ⟨rfl, fun j a _ _ => uI_ne _ _ (by omega), fun k a => uI_row _ _ a⟩, h1, ⟨k + 1, ?_, by omega⟩, ⟨?_, h4.2⟩, ?_⟩
    · rw [uI_I, if_pos ⟨rfl, rfl⟩]
    · rw [uI_ne _ _ (by omega)]; exact h4.1
    · rw [uI_ne _ _ (by omega)]; exact h5
theorem mustA {n k w : Nat} {b : Nat → Nat} {s : hSt} (h : LvM n b k s) (hw : w ∈ vL) (hw0 : w ≠ 0) : ∃ s', F_X12_must 0 (nI (mkK w)) s = some s' ∧ frN s s' ∧
    ((KK n b k = w ∧ k < 400 ∧ LvM n b (k + 1) s') ∨ (¬ (KK n b k = w ∧ k < 400) ∧ DdM n b (if KK n b k = w then 2 else 1) k s')) := by
  have f20 : ∀ z, F_X12_must_20 z = some z := fun _ => rfl
  unfold F_X12_must
  rw [isA h hw, Option.bind_some]
  by_cases q : KK n b k = w
  · obtain ⟨s', g1, g2, g3⟩ := goA h (by rw [q]; exact hw0)
    rw [if_pos q, if_neg ne_10, g1, Option.bind_some, f20]
    refine ⟨s', rfl, g2, ?_⟩
    rcases g3 with ⟨g3, g4⟩ | ⟨g3, g4⟩
    · exact Or.inl ⟨q, g3, g4⟩
    · exact Or.inr ⟨fun z => by omega, by rw [if_pos q]; exact g4⟩
  · obtain ⟨s', g1, g2, g3⟩ := mfailA (f := 1) h (Or.inl rfl)
    rw [if_neg q, if_pos rfl, show F_X12_fail 0 (1 : Int32) s = F_X12_fail 0 (nI 1) s from rfl, g1, Option.bind_some, f20]
    exact ⟨s', rfl, g3, Or.inr ⟨fun z => q z.1, by rw [if_neg q]; exact g2⟩⟩
theorem mustD {n f j : Nat} {b : Nat → Nat} {x : Int32} {s : hSt} (h : DdM n b f j s) : F_X12_must 0 x s = some s := by
  have f20 : ∀ z, F_X12_must_20 z = some z := fun _ => rfl
  unfold F_X12_must
  rw [isD h, Option.bind_some, if_pos rfl, mfailD h, Option.bind_some, f20]
