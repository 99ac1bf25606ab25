/-! ===== PURE 33: the two systems side by side ===== -/
/-- hills that there are not know nothing and heard nothing -/
def RH (H : Nat) (r : Nat → Int32) : Prop := ∀ x y, H ≤ x → x < 6 → y < 4 → r (4 * x + y) = 0 ∧ r (96 + (4 * x + y)) = 0
/-- a world and a row, its day at most b -/
def WR (H b : Nat) (I : Nat → Nat → Int32) (w : Nat) (r : Nat → Int32) : Prop := ∃ n d, RW I w r n ∧ r 120 = nI d ∧ d ≤ b ∧ RH H r
theorem WR_mono {H b b' : Nat} {I : Nat → Nat → Int32} {w : Nat} {r : Nat → Int32} (h : WR H b I w r) (hb : b ≤ b') : WR H b' I w r := by
  obtain ⟨n, d, h1, h2, h3, h4⟩ := h
  exact ⟨n, d, h1, h2, by omega, h4⟩
theorem WR_same {H b : Nat} {I I' : Nat → Nat → Int32} {w : Nat} {r : Nat → Int32} (h : WR H b I w r) (e : ∀ k, w ≤ k → k < w + 4 → I' k = I k) : WR H b I' w r := by
  obtain ⟨n, d, h1, h2⟩ := h
  exact ⟨n, d, RW_same h1 e, h2⟩
theorem RH_lo {H : Nat} {r r' : Nat → Int32} (h : RH H r) (e : ∀ j, j < 380 → r' j = r j) : RH H r' := fun x y a b c => by
  rw [e _ (by omega), e _ (by omega)]
  exact h x y a b c
theorem WR_rowlo {H b : Nat} {I : Nat → Nat → Int32} {w : Nat} {r r' : Nat → Int32} (h : WR H b I w r) (e : ∀ j, j < 380 → r' j = r j) : WR H b I w r' := by
  obtain ⟨n, d, h1, h2, h3, h4⟩ := h
  exact ⟨n, d, RW_rowlo h1 e, by rw [e _ (by decide)]; exact h2, h3, RH_lo h4 e⟩
theorem WR_copy {H b v w : Nat} {σ : hSt} {r : Nat → Int32} (h : WR H b σ.1 w r) : WR H b (cpC v w σ).1 v r := by
  obtain ⟨n, d, h1, h2⟩ := h
  exact ⟨n, d, copy_keep h1, h2⟩
/-- the tape -/
def Rtp (σ τ : hSt) : Prop := ∃ n, n ≤ 2000 ∧ σ.1 1 1 = nI n ∧ τ.1 0 2 = nI n ∧ ∀ i, i < n → σ.1 2 i = τ.1 1 i
/-- the things done -/
def Rps (H b : Nat) (σ τ : hSt) : Prop := ∃ s x, s ≤ 40 ∧ x < 40 ∧ σ.1 52 2 = nI s ∧ σ.1 52 1 = nI x ∧ τ.1 0 57 = nI s ∧ ∀ j, j < s → WR H b σ.1 (54 + 4 * ((x + 40 - s + j) % 40)) (fun i => τ.1 38 (380 * j + i))
/-- the slots -/
def Rsl (H b : Nat) (σ τ : hSt) : Prop := ∃ h, h < 8 ∧ σ.1 0 9 = nI h ∧ ∀ j, j < 3 → ((τ.1 45 j = if bt (nI h) j then 1 else 0) ∧ (bt (nI h) j = true → WR H b σ.1 (234 + 4 * j) (fun i => τ.1 46 (380 * j + i))))
/-- what was told -/
def Rtd (H M : Nat) (σ τ : hSt) : Prop := ∃ n, n ≤ 20 ∧ σ.1 215 3 = nI n ∧ τ.1 0 63 = nI n ∧ ∀ i, i < n → ∃ a c e, a < H ∧ c < M ∧ e < 100 ∧ σ.1 216 i = nI a ∧ τ.1 42 i = nI a ∧ σ.1 217 i = nI c ∧ τ.1 43 i = nI c ∧ σ.1 218 i = nI e ∧ τ.1 44 i = nI e
/-- all but the texts -/
def Rst (H M b : Nat) (σ τ : hSt) : Prop := Rtp σ τ ∧ σ.1 0 4 = τ.1 0 17 ∧ WR H b σ.1 44 (τ.1 36) ∧ Rps H b σ τ ∧ Rsl H b σ τ ∧ Rtd H M σ τ
/-- the live text's place in the class -/
def Rat (t : Nat) (P : SPt) : Prop := P 0 1 = some t ∧ (t = 3 ∨ t = 20)
theorem Rat_ok {t : Nat} {P : SPt} (h : Rat t P) : okr kC NC 7 t = true ∧ t + 17 ≤ 44 := by
  rcases h.2 with e | e <;> subst e <;> decide
theorem Rat_c {t : Nat} {P : SPt} {α : Type} (h : Rat t P) (f : Nat → Option α) : cR (P 0 1) (okr kC NC 7) f = f t := cR_t h.1 (Rat_ok h).1
def Rr (b : Nat) (σ τ : hSt) : Prop := ∃ t li D, Rat t σ.2.2 ∧ TXok D ∧ TC t D σ ∧ TM li D τ ∧ Rst (tH D) (tM D) b σ τ
/-- what read-only calls leave in the class and in the model -/
def frC (t : Nat) (σ σ' : hSt) : Prop := σ'.2.2 = σ.2.2 ∧ ∀ k, ¬ (t ≤ k ∧ k < t + 17) → ¬ (48 ≤ k ∧ k < 52) → ¬ (219 ≤ k ∧ k < 234) → σ'.1 k = σ.1 k
def frM (τ τ' : hSt) : Prop := (∀ j, j ≠ 51 → j ≠ 55 → j ≠ 56 → j ≠ 62 → τ'.1 0 j = τ.1 0 j) ∧ ∀ k, k ≠ 0 → k ≠ 33 → k ≠ 34 → k ≠ 35 → k ≠ 37 → k ≠ 39 → k ≠ 40 → k ≠ 41 → τ'.1 k = τ.1 k
theorem frC_rfl {t : Nat} {σ : hSt} : frC t σ σ := ⟨rfl, fun _ _ _ _ => rfl⟩
theorem frM_rfl {τ : hSt} : frM τ τ := ⟨fun _ _ _ _ _ => rfl, fun _ _ _ _ _ _ _ _ _ => rfl⟩
theorem frC_trans {t : Nat} {σ σ' σ'' : hSt} (h : frC t σ σ') (h' : frC t σ' σ'') : frC t σ σ'' := ⟨h'.1.trans h.1, fun k a b c => (h'.2 k a b c).trans (h.2 k a b c)⟩
theorem frM_trans {τ τ' τ'' : hSt} (h : frM τ τ') (h' : frM τ' τ'') : frM τ τ'' := ⟨fun j a b c d => (h'.1 j a b c d).trans (h.1 j a b c d), fun k a b c d e f g i => (h'.2 k a b c d e f g i).trans (h.2 k a b c d e f g i)⟩
theorem frM_q {τ τ' : hSt} (h : frq τ τ') : frM τ τ' := ⟨fun j a _ _ _ => h.2.1 j a, fun k a b c d e _ _ _ => (h.2.2 k a b c d e).1⟩
theorem frM_W {τ τ' : hSt} (h : frW τ τ') : frM τ τ' := ⟨fun j a _ _ _ => h.2.1 j a, fun k a b c _ _ _ _ _ => h.2.2 k a b c⟩
theorem Rst_fr {H M b t : Nat} {σ σ' τ τ' : hSt} (h : Rst H M b σ τ) (ht : t = 3 ∨ t = 20) (f : frC t σ σ') (g : frM τ τ') : Rst H M b σ' τ' := by
  obtain ⟨⟨n, a1, a2, a3, a4⟩, b1, c1, ⟨s, x, d1, d2, d3, d4, d5, d6⟩, ⟨hh, e1, e2, e3⟩, ⟨nt, g1, g2, g3, g4⟩⟩ := h
  have F := f.2
  have G := g.2
  have w : ∀ w, (44 ≤ w ∧ w ≤ 44) ∨ (54 ≤ w ∧ w ≤ 210) ∨ (234 ≤ w) → ∀ k, w ≤ k → k < w + 4 → σ'.1 k = σ.1 k := fun w hw k q1 q2 => F k (by omega) (by omega) (by omega)
  refine ⟨⟨n, a1, ?_, ?_, ?_⟩, ?_, ?_, ⟨s, x, d1, d2, ?_, ?_, ?_, ?_⟩, ⟨hh, e1, ?_, ?_⟩, ⟨nt, g1, ?_, ?_, ?_⟩⟩
  · rw [F 1 (by omega) (by omega) (by omega)]; exact a2
  · rw [g.1 2 (by decide) (by decide) (by decide) (by decide)]; exact a3
  · rw [F 2 (by omega) (by omega) (by omega), G 1 (by decide) (by decide) (by decide) (by decide) (by decide) (by decide) (by decide) (by decide)]; exact a4
  · rw [F 0 (by omega) (by omega) (by omega), g.1 17 (by decide) (by decide) (by decide) (by decide)]; exact b1
  · rw [G 36 (by decide) (by decide) (by decide) (by decide) (by decide) (by decide) (by decide) (by decide)]; exact WR_same c1 (w 44 (by omega))
  · rw [F 52 (by omega) (by omega) (by omega)]; exact d3
  · rw [F 52 (by omega) (by omega) (by omega)]; exact d4
  · rw [g.1 57 (by decide) (by decide) (by decide) (by decide)]; exact d5
  · rw [G 38 (by decide) (by decide) (by decide) (by decide) (by decide) (by decide) (by decide) (by decide)]
    intro j hj
    exact WR_same (d6 j hj) (w _ (by omega))
  · rw [F 0 (by omega) (by omega) (by omega)]; exact e2
  · rw [G 45 (by decide) (by decide) (by decide) (by decide) (by decide) (by decide) (by decide) (by decide), G 46 (by decide) (by decide) (by decide) (by decide) (by decide) (by decide) (by decide) (by decide)]
    intro j hj
    exact ⟨(e3 j hj).1, fun q => WR_same ((e3 j hj).2 q) (w _ (by omega))⟩
  · rw [F 215 (by omega) (by omega) (by omega)]; exact g2
  · rw [g.1 63 (by decide) (by decide) (by decide) (by decide)]; exact g3
  · rw [F 216 (by omega) (by omega) (by omega), F 217 (by omega) (by omega) (by omega), F 218 (by omega) (by omega) (by omega), G 42 (by decide) (by decide) (by decide) (by decide) (by decide) (by decide) (by decide) (by decide), G 43 (by decide) (by decide) (by decide) (by decide) (by decide) (by decide) (by decide) (by decide), G 44 (by decide) (by decide) (by decide) (by decide) (by decide) (by decide) (by decide) (by decide)]
    exact g4
theorem Rst_mono {H M b b' : Nat} {σ τ : hSt} (h : Rst H M b σ τ) (hb : b ≤ b') : Rst H M b' σ τ := by
  obtain ⟨h1, h2, h3, ⟨s, x, d1, d2, d3, d4, d5, d6⟩, ⟨hh, e1, e2, e3⟩, h6⟩ := h
  exact ⟨h1, h2, WR_mono h3 hb, ⟨s, x, d1, d2, d3, d4, d5, fun j hj => WR_mono (d6 j hj) hb⟩, ⟨hh, e1, e2, fun j hj => ⟨(e3 j hj).1, fun q => WR_mono ((e3 j hj).2 q) hb⟩⟩, h6⟩
/-! single questions of bounds -/
theorem inM_n {x : Int32} {n : Nat} {τ : hSt} (hn : n < 2 ^ 30) : (∃ j, j < n ∧ x = nI j ∧ F_X12_in x 0 (nI n - 1) τ = some 1) ∨ (F_X12_in x 0 (nI n - 1) τ = some 0 ∧ (x < 0 ∨ nI n ≤ x)) := by
  have f0 : F_X12_in_14 τ = some 0 := rfl
  have f1 : F_X12_in_15 1 τ = some 1 := rfl
  have hs : (nI n - 1).toInt = (n : Int) - 1 := pk_sub_toInt (b := 1) hn (by decide)
  unfold F_X12_in
  rcases pk_ix x (n := n) (by omega) with h | h | ⟨j, hj, e⟩
  · exact Or.inr ⟨by rw [if_pos h, f0], Or.inl h⟩
  · right
    refine ⟨?_, Or.inr h⟩
    have h1 : nI n - 1 < x := by
      rw [Int32.lt_iff_toInt_lt, hs]
      have := Int32.le_iff_toInt_le.mp h
      rw [nI_toInt (by omega)] at this
      omega
    by_cases h0 : x < 0
    · rw [if_pos h0, f0]
    · rw [if_neg h0, if_pos h1, f0]
  · left
    refine ⟨j, hj, e, ?_⟩
    subst e
    have h1 : ¬ nI n - 1 < nI j := by
      rw [Int32.lt_iff_toInt_lt, hs, nI_toInt (by omega)]
      omega
    rw [if_neg (nI_pos (by omega)), if_neg h1, f1]
theorem inM_le {x : Int32} {n : Nat} {τ : hSt} (hn : n < 2 ^ 31) : (∃ j, j ≤ n ∧ x = nI j ∧ F_X12_in x 0 (nI n) τ = some 1) ∨ (F_X12_in x 0 (nI n) τ = some 0 ∧ (x < 0 ∨ nI n < x)) := by
  have f0 : F_X12_in_14 τ = some 0 := rfl
  have f1 : F_X12_in_15 1 τ = some 1 := rfl
  unfold F_X12_in
  by_cases h0 : x < 0
  · exact Or.inr ⟨by rw [if_pos h0, f0], Or.inl h0⟩
  · obtain ⟨j, hj, e⟩ := nI_of h0
    subst e
    by_cases h : n < j
    · exact Or.inr ⟨by rw [if_neg h0, if_pos (nI_lt h hj), f0], Or.inr (nI_lt h hj)⟩
    · exact Or.inl ⟨j, by omega, rfl, by rw [if_neg h0, if_neg (nI_nlt (by omega) hn), f1]⟩
/-- a hill, or none, in both -/
theorem hill_eq {x : Int32} {t li : Nat} {D : TxD} {σ τ : hSt} (hD : TXok D) (ht : Rat t σ.2.2) (hC : TC0 t D σ) (hM : TM li D τ) :
    (∃ h, h < tH D ∧ x = nI h ∧ F_X11_isHill 0 x σ = some 1 ∧ F_X12_isHill 0 x τ = some 1) ∨ (F_X11_isHill 0 x σ = some 0 ∧ F_X12_isHill 0 x τ = some 0) := by
  have d1 : tH D ≤ 6 := hD.1
  have f0 : F_X11_isHill_19 σ = some 0 := rfl
  have f1 : F_X11_isHill_20 1 σ = some 1 := rfl
  unfold F_X11_isHill F_X12_isHill
  rw [Rat_c ht, rM_24 hM.1, hM.2.1.1, cG_t (inb_nI (by rw [kM_11]; exact hM.2.1.2) (by decide)), cl_nI (by have := hM.2.1.2; omega), hM.2.2.1.1, hC.2.1.1]
  rcases inM_n (x := x) (n := tH D) (τ := τ) (by omega) with ⟨j, h1, h2, h3⟩ | ⟨h1, h2⟩
  · left
    refine ⟨j, h1, h2, ?_, by rw [h3]; rfl⟩
    subst h2
    rw [if_neg (nI_pos (by omega)), if_neg (nI_ge h1 (by omega)), f1]
  · right
    refine ⟨?_, by rw [h1]; rfl⟩
    by_cases h0 : x < 0
    · rw [if_pos h0, f0]
    · rw [if_neg h0, if_pos (h2.resolve_left h0), f0]
theorem news_eq {x : Int32} {t li : Nat} {D : TxD} {σ τ : hSt} (hD : TXok D) (ht : Rat t σ.2.2) (hC : TC0 t D σ) (hM : TM li D τ) :
    (∃ h, h < tM D ∧ x = nI h ∧ F_X11_isNews 0 x σ = some 1 ∧ F_X12_isNews 0 x τ = some 1) ∨ (F_X11_isNews 0 x σ = some 0 ∧ F_X12_isNews 0 x τ = some 0) := by
  have d1 : tM D ≤ 4 := hD.2.1
  have f0 : F_X11_isNews_19 σ = some 0 := rfl
  have f1 : F_X11_isNews_20 1 σ = some 1 := rfl
  unfold F_X11_isNews F_X12_isNews
  rw [Rat_c ht, rM_27 hM.1, hM.2.1.1, cG_t (inb_nI (by rw [kM_14]; exact hM.2.1.2) (by decide)), cl_nI (by have := hM.2.1.2; omega), hM.2.2.1.2.1, hC.2.1.2.1]
  rcases inM_n (x := x) (n := tM D) (τ := τ) (by omega) with ⟨j, h1, h2, h3⟩ | ⟨h1, h2⟩
  · left
    refine ⟨j, h1, h2, ?_, by rw [h3]; rfl⟩
    subst h2
    rw [if_neg (nI_pos (by omega)), if_neg (nI_ge h1 (by omega)), f1]
  · right
    refine ⟨?_, by rw [h1]; rfl⟩
    by_cases h0 : x < 0
    · rw [if_pos h0, f0]
    · rw [if_neg h0, if_pos (h2.resolve_left h0), f0]
