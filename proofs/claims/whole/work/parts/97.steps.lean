/-! ===== PURE 62: the two readers side by side ===== -/
theorem tkP_lt {n j : Nat} {b : Nat → Nat} (h : KK n b j ≠ 0) : tkP n b j < tkP n b (j + 1) := by
  have hn : ¬ n ≤ tkP n b j := fun q => h (by unfold KK tkK; rw [if_pos q])
  have g : tkP n b j < tkN n b (tkP n b j) := by
    unfold tkN
    rw [if_neg hn]
    by_cases l : isLt (b (tkP n b j)) = true
    · rw [if_pos l, rn_s (by omega) l]
      have := (rn_b (p := isLt) (b := b) (show tkP n b j + 1 ≤ n by omega)).1
      omega
    · rw [if_neg l]
      by_cases d : isDg (b (tkP n b j)) = true
      · rw [if_pos d, rn_s (by omega) d]
        have := (rn_b (p := isDg) (b := b) (show tkP n b j + 1 ≤ n by omega)).1
        omega
      · rw [if_neg d]
        omega
  have := (rn_b (p := isBl) (b := b) (tkN_le (n := n) (b := b) (p := tkP n b j) (tkP_le j)).2).1
  show _ < rn isBl n b (tkN n b (tkP n b j))
  omega
/-- both go on, at token k; a fault of the meaning, w, at place wp -/
def RdR (n : Nat) (b : Nat → Nat) (t k w wp : Nat) (σ τ : hSt) : Prop := LvC n b t k σ ∧ LvM n b k τ ∧ σ.1 37 7 = nI w ∧ τ.1 0 15 = nI w ∧ w < 6 ∧ (w ≠ 0 → σ.1 37 8 = nI wp ∧ τ.1 0 16 = nI wp ∧ wp < tkP n b k)
def DdR (n : Nat) (b : Nat → Nat) (t : Nat) (σ τ : hSt) : Prop := ∃ f j, DdC n b t f j σ ∧ DdM n b f j τ
/-- what single steps change -/
def frKC (s s' : hSt) : Prop := s'.2 = s.2 ∧ ∀ k, k ≠ 37 → s'.1 k = s.1 k
def frKM (s s' : hSt) : Prop := s'.2 = s.2 ∧ (∀ j, j ≠ 11 → j ≠ 13 → j ≠ 14 → j ≠ 15 → j ≠ 16 → s'.1 0 j = s.1 0 j) ∧ ∀ k, k ≠ 0 → s'.1 k = s.1 k
theorem frKC_rfl {s : hSt} : frKC s s := ⟨rfl, fun _ _ => rfl⟩
theorem frKM_rfl {s : hSt} : frKM s s := ⟨rfl, fun _ _ _ _ _ _ => rfl, fun _ _ => rfl⟩
theorem frKC_trans {s s' s'' : hSt} (h : frKC s s') (h' : frKC s' s'') : frKC s s'' := ⟨h'.1.trans h.1, fun k a => (h'.2 k a).trans (h.2 k a)⟩
theorem frKM_trans {s s' s'' : hSt} (h : frKM s s') (h' : frKM s' s'') : frKM s s'' := ⟨h'.1.trans h.1, fun j a c d e f => (h'.2.1 j a c d e f).trans (h.2.1 j a c d e f), fun k a => (h'.2.2 k a).trans (h.2.2 k a)⟩
theorem frKC_T {s s' : hSt} (h : frT s s') : frKC s s' := ⟨h.1, h.2.2⟩
theorem frKM_N {s s' : hSt} (h : frN s s') : frKM s s' := ⟨h.1, fun j a c d _ _ => h.2.1 j a c d, h.2.2⟩
theorem RdR_b {n t k w wp : Nat} {b : Nat → Nat} {σ τ σ' τ' : hSt} (h : RdR n b t k w wp σ τ) (h1 : LvC n b t (k + 1) σ') (h2 : LvM n b (k + 1) τ') (f1 : frT σ σ') (f2 : frN τ τ') (h0 : KK n b k ≠ 0) : RdR n b t (k + 1) w wp σ' τ' := by
  obtain ⟨a1, a2, a3, a4, a5, a6⟩ := h
  refine ⟨h1, h2, ?_, ?_, a5, fun q => ?_⟩
  · rw [f1.2.1 7 (by decide) (by decide) (by decide)]; exact a3
  · rw [f2.2.1 15 (by decide) (by decide) (by decide)]; exact a4
  · obtain ⟨b1, b2, b3⟩ := a6 q
    refine ⟨?_, ?_, Nat.lt_trans b3 (tkP_lt h0)⟩
    · rw [f1.2.1 8 (by decide) (by decide) (by decide)]; exact b1
    · rw [f2.2.1 16 (by decide) (by decide) (by decide)]; exact b2
/-- a token that both want -/
theorem both_take {n t k w wp x : Nat} {b : Nat → Nat} {σ τ : hSt} (hb : ∀ i, b i < 256) (h : RdR n b t k w wp σ τ) (hx : x ∈ vL) (hx0 : x ≠ 0) (hx2 : x < 256) :
    ∃ v σ' τ', F_X4_take 37 (nI x) σ = some (v, σ') ∧ F_X12_must 0 (nI (mkK x)) τ = some τ' ∧ frT σ σ' ∧ frN τ τ' ∧ ((KK n b k = x ∧ v = tkV n b (tkP n b k) ∧ RdR n b t (k + 1) w wp σ' τ') ∨ DdR n b t σ' τ') := by
  obtain ⟨v, σ', g1, g2, g3⟩ := takeA (w := x) h.1 hb hx2
  obtain ⟨τ', p1, p2, p3⟩ := mustA (w := x) h.2.1 hx hx0
  refine ⟨v, σ', τ', g1, p1, g2, p2, ?_⟩
  rcases g3 with ⟨a1, a2, a3, a4⟩ | ⟨a1, a2, a3⟩
  · rcases p3 with ⟨c1, c2, c3⟩ | ⟨c1, c2⟩
    · exact Or.inl ⟨a1, a3, RdR_b h a4 c3 g2 p2 (by rw [a1]; exact hx0)⟩
    · exact absurd ⟨a1, a2⟩ c1
  · rcases p3 with ⟨c1, c2, c3⟩ | ⟨c1, c2⟩
    · exact absurd ⟨c1, c2⟩ a1
    · exact Or.inr ⟨_, _, a3, c2⟩
/-- a fault of the meaning, in the class -/
theorem meanC {n t k j w f : Nat} {b : Nat → Nat} {s : hSt} (h : LvC n b t k s) (hj : j ≤ 400) (e : s.1 37 7 = nI w) (hw : w < 6) :
    ∃ s', F_X4_mean 37 (nI f) (nI j) s = some s' ∧ frKC s s' ∧ LvC n b t k s' ∧ (w = 0 → s'.1 37 7 = nI f ∧ s'.1 37 8 = nI (tkP n b j)) ∧ (w ≠ 0 → s' = s) := by
  obtain ⟨h1, h2, h3, h4, h5, h6, h7⟩ := h
  have f32 : ∀ z, F_X4_mean_32 z = some z := fun _ => rfl
  unfold F_X4_mean
  rw [e]
  by_cases q : w = 0
  · subst q
    have h1' : HC (uI s 37 7 (nI f)).2.2 := h1
    rw [if_pos (show nI 0 = 0 from rfl), if_neg (show ¬ (401 : Int32) ≤ nI j from nI_ge (b := 401) (by omega) (by decide))]
    unfold cL
    dsimp only
    rw [rC_4_0 h1' (c := 37) (by decide), rC_8_1 h1' (c := 37 + 1) (by decide), cG_t (inb_nI (by rw [show (37 + 1 + 2 : Nat) = 38 + 2 from rfl, k40]; omega) (by decide)), cl_nI (by omega), show (37 + 1 + 2 : Nat) = 40 from rfl, uI_row _ _ (show (40 : Nat) ≠ 37 by decide), (h4.1 j (by omega)).2.1, f32]
    refine ⟨_, rfl, ⟨rfl, fun c a => by rw [uI_row _ _ a, uI_row _ _ a]⟩, ⟨h1, h2, h3, ⟨TkC_fr h4.1 (by rw [uI_row _ _ (by decide), uI_row _ _ (by decide)]) (by rw [uI_row _ _ (by decide), uI_row _ _ (by decide)]) rfl, by rw [uI_ne _ _ (by omega), uI_ne _ _ (by omega)]; exact h4.2⟩, ?_, h6, ?_⟩, fun _ => ⟨?_, ?_⟩, fun z => absurd rfl z⟩
    · rw [uI_ne _ _ (by omega), uI_ne _ _ (by omega)]; exact h5
    · rw [uI_ne _ _ (by omega), uI_ne _ _ (by omega)]; exact h7
    · rw [uI_ne _ _ (by omega), uI_I, if_pos ⟨rfl, rfl⟩]
    · rw [uI_I, if_pos ⟨rfl, rfl⟩]
  · rw [if_neg (show ¬ nI w = 0 from fun z => q ((nI_eq (b := 0) (by omega) (by decide)).mp z)), f32]
    exact ⟨s, rfl, frKC_rfl, ⟨h1, h2, h3, h4, h5, h6, h7⟩, fun z => absurd z q, fun _ => rfl⟩
/-- and in the model: about a token it has tokens for -/
theorem wrongM {n k j w wp f c : Nat} {b : Nat → Nat} {s : hSt} (h : LvM n b k s) (hc : TkM n b c s) (hj : j < c) (hc4 : c ≤ 401) (e : s.1 0 15 = nI w) (hw : w < 6) (hp : w ≠ 0 → s.1 0 16 = nI wp ∧ (wp < tkP n b j ∨ (wp = tkP n b j ∧ w = f))) (hp2 : tkP n b j < 2 ^ 30) :
    ∃ s', F_X12_wrong 0 (nI f) (nI j) s = some s' ∧ frKM s s' ∧ LvM n b k s' ∧ (w = 0 → s'.1 0 15 = nI f ∧ s'.1 0 16 = nI (tkP n b j)) ∧ (w ≠ 0 → s' = s) := by
  have hA := h
  obtain ⟨h1, h2, h4, h5, h6, h7⟩ := h
  have f45 : ∀ z, F_X12_wrong_45 z = some z := fun _ => rfl
  unfold F_X12_wrong
  rw [rM_6 h1, cG_t (inb_nI (by rw [kM_4]; omega) (by decide)), cl_nI (by omega), (hc j hj).2.1]
  unfold cL
  dsimp only
  rw [h7, if_neg (show ¬ (0 : Int32) < 0 by decide), e]
  by_cases q : w = 0
  · subst q
    rw [if_pos (show nI 0 = 0 from rfl)]
    unfold F_X12_wrong_46 cL
    refine ⟨_, rfl, ⟨rfl, fun j _ _ _ a d => ?_, fun k a => ?_⟩, LvM_fr hA rfl (by rw [uI_ne _ _ (by omega), uI_ne _ _ (by omega)]) (by rw [uI_ne _ _ (by omega), uI_ne _ _ (by omega)]) (fun c x y => by rw [uI_row _ _ (by omega), uI_row _ _ (by omega)]), fun _ => ⟨?_, ?_⟩, fun z => absurd rfl z⟩
    · rw [uI_ne _ _ (by omega), uI_ne _ _ (by omega)]
    · rw [uI_row _ _ a, uI_row _ _ a]
    · rw [uI_ne _ _ (by omega), uI_I, if_pos ⟨rfl, rfl⟩]
    · rw [uI_I, if_pos ⟨rfl, rfl⟩]
  · obtain ⟨p1, p2⟩ := hp q
    rw [if_neg (show ¬ nI w = 0 from fun z => q ((nI_eq (b := 0) (by omega) (by decide)).mp z)), p1, f45]
    refine ⟨s, ?_, frKM_rfl, hA, fun z => absurd z q, fun _ => rfl⟩
    rcases p2 with p2 | ⟨p2, p3⟩
    · rw [if_pos (nI_lt p2 (by omega))]
    · subst p2 p3
      rw [if_neg (nI_nlt (Nat.le_refl _) (by omega)), if_pos rfl, if_neg (nI_nlt (Nat.le_refl _) (by omega))]
