/-! ===== PURE 77: branches one behind another ===== -/
abbrev Brn : Type := Ops × Ops × Ops
def brC (C : Nat → Int32) (a : Nat) (q : Brn) : Prop := cOps C a q.1 ∧ cOps C (a + q.1.length) q.2.1 ∧ C (a + q.1.length + q.2.1.length) = -60 ∧ C (a + q.1.length + q.2.1.length + 1) = nI (a + q.1.length + q.2.1.length + 2 + q.2.2.length + 1) ∧
  cOps C (a + q.1.length + q.2.1.length + 2) q.2.2 ∧ C (a + q.1.length + q.2.1.length + 2 + q.2.2.length) = -59 ∧ (opsOk 16 q.1 0 1 ∧ opsOk 16 q.2.1 0 1 ∧ opsOk 16 q.2.2 0 1)
def cPre (C : Nat → Int32) : Nat → List Brn → Nat → Prop
  | a, [], e => a = e
  | a, q :: bs, e => brC C a q ∧ cPre C (a + q.1.length + q.2.1.length + 2 + q.2.2.length + 1) bs e
theorem cPre_le {C : Nat → Int32} : ∀ (bs : List Brn) (a e : Nat), cPre C a bs e → a ≤ e
  | [], a, e, h => by have h : a = e := h; omega
  | q :: bs, a, e, h => by have := cPre_le bs _ _ h.2; omega
theorem cPre_snoc {C : Nat → Int32} {q : Brn} : ∀ (bs : List Brn) (a e : Nat), cPre C a bs e → brC C e q → cPre C a (bs ++ [q]) (e + q.1.length + q.2.1.length + 2 + q.2.2.length + 1)
  | [], a, e, h, h' => by
    have h : a = e := h
    subst h
    exact ⟨h', rfl⟩
  | p :: bs, a, e, h, h' => ⟨h.1, cPre_snoc bs _ _ h.2 h'⟩
theorem brC_congr {C C' : Nat → Int32} {q : Brn} {a : Nat} (h : ∀ j, j < a + q.1.length + q.2.1.length + 2 + q.2.2.length + 1 → C' j = C j) (g : brC C a q) : brC C' a q := by
  obtain ⟨g1, g2, g3, g4, g5, g6, g7⟩ := g
  exact ⟨cOps_congr _ _ (fun j _ r => h j (by omega)) g1, cOps_congr _ _ (fun j _ r => h j (by omega)) g2, (h _ (by omega)).trans g3, (h _ (by omega)).trans g4, cOps_congr _ _ (fun j _ r => h j (by omega)) g5, (h _ (by omega)).trans g6, g7⟩
theorem cPre_congr {C C' : Nat → Int32} : ∀ (bs : List Brn) (a e : Nat), (∀ j, j < e → C' j = C j) → cPre C a bs e → cPre C' a bs e
  | [], a, e, _, g => g
  | q :: bs, a, e, h, g => by
    have := cPre_le bs _ _ g.2
    exact ⟨brC_congr (fun j r => h j (by omega)) g.1, cPre_congr bs _ _ h g.2⟩
theorem cLaw_of {C : Nat → Int32} {L : Nat} {z : Ops} : ∀ (bs : List Brn) (a e : Nat), cPre C a bs e → (cOps C e z ∧ C (e + z.length) = -59 ∧ e + z.length + 1 ≤ L ∧ opsOk 16 z 0 1) → cLaw C L a bs z
  | [], a, e, g, h => by
    have g : a = e := g
    subst g
    exact h
  | q :: bs, a, e, g, h => by
    have := cPre_le bs _ _ g.2
    obtain ⟨⟨g1, g2, g3, g4, g5, g6, g7⟩, g8⟩ := g
    exact ⟨g1, g2, g3, g4, g5, g6, g7, by omega, cLaw_of bs _ _ g8 h⟩
def brM (s : Nat) (G : Nat → Nat → Int32) (c k : Nat) (q : Brn) : Prop := ∃ a, 420 * s ≤ a ∧ ¬ G 25 k = 0 ∧ G 26 k = nI a ∧ G 27 k = nI (a + q.1.length) ∧ G 28 k = nI (a + q.1.length + q.2.1.length) ∧ G 29 k = nI (a + q.1.length + q.2.1.length + q.2.2.length) ∧
  mOps (G 30) (G 31) a q.1 ∧ mOps (G 30) (G 31) (a + q.1.length) q.2.1 ∧ mOps (G 30) (G 31) (a + q.1.length + q.2.1.length) q.2.2 ∧ a + q.1.length + q.2.1.length + q.2.2.length ≤ 420 * s + c ∧ (opsOk 16 q.1 0 1 ∧ opsOk 16 q.2.1 0 1 ∧ opsOk 16 q.2.2 0 1)
def mPre (s : Nat) (G : Nat → Nat → Int32) (c : Nat) : Nat → List Brn → Nat → Prop
  | k, [], e => k = e
  | k, q :: bs, e => brM s G c k q ∧ mPre s G c (k + 1) bs e
theorem mPre_le {s c : Nat} {G : Nat → Nat → Int32} : ∀ (bs : List Brn) (k e : Nat), mPre s G c k bs e → k ≤ e
  | [], a, e, h => by have h : a = e := h; omega
  | q :: bs, a, e, h => by have := mPre_le bs _ _ h.2; omega
theorem mPre_snoc {s c : Nat} {G : Nat → Nat → Int32} {q : Brn} : ∀ (bs : List Brn) (k e : Nat), mPre s G c k bs e → brM s G c e q → mPre s G c k (bs ++ [q]) (e + 1)
  | [], a, e, h, h' => by
    have h : a = e := h
    subst h
    exact ⟨h', rfl⟩
  | p :: bs, a, e, h, h' => ⟨h.1, mPre_snoc bs _ _ h.2 h'⟩
theorem brM_congr {s c c' k : Nat} {G G' : Nat → Nat → Int32} {q : Brn} (h1 : ∀ r, 25 ≤ r → r ≤ 29 → G' r k = G r k) (h2 : ∀ i, 420 * s ≤ i → i < 420 * s + c → G' 30 i = G 30 i ∧ G' 31 i = G 31 i) (hc : c ≤ c') (g : brM s G c k q) : brM s G' c' k q := by
  obtain ⟨a, g0, g1, g2, g3, g4, g5, g6, g7, g8, g9, g10⟩ := g
  refine ⟨a, g0, by rw [h1 25 (by decide) (by decide)]; exact g1, by rw [h1 26 (by decide) (by decide)]; exact g2, by rw [h1 27 (by decide) (by decide)]; exact g3, by rw [h1 28 (by decide) (by decide)]; exact g4, by rw [h1 29 (by decide) (by decide)]; exact g5, ?_, ?_, ?_, by omega, g10⟩
  · exact mOps_congr _ _ (fun j p r => h2 j (by omega) (by omega)) g6
  · exact mOps_congr _ _ (fun j p r => h2 j (by omega) (by omega)) g7
  · exact mOps_congr _ _ (fun j p r => h2 j (by omega) (by omega)) g8
theorem mPre_congr {s c c' : Nat} {G G' : Nat → Nat → Int32} : ∀ (bs : List Brn) (k e : Nat), (∀ r i, 25 ≤ r → r ≤ 29 → k ≤ i → i < e → G' r i = G r i) → (∀ i, 420 * s ≤ i → i < 420 * s + c → G' 30 i = G 30 i ∧ G' 31 i = G 31 i) → c ≤ c' → mPre s G c k bs e → mPre s G' c' k bs e
  | [], k, e, _, _, _, g => g
  | q :: bs, k, e, h1, h2, hc, g => by
    have := mPre_le bs _ _ g.2
    exact ⟨brM_congr (fun r p p' => h1 r k p p' (Nat.le_refl _) (by omega)) h2 hc g.1, mPre_congr bs _ _ (fun r i p p' u v => h1 r i p p' (by omega) v) h2 hc g.2⟩
theorem wd_130 : ∀ r, r < 30 → 25 ≤ r → wdM r = 130 := by decide
theorem wd_420 : wdM 30 = 420 ∧ wdM 31 = 420 := by decide
theorem mLaw_of {s c : Nat} {G : Nat → Nat → Int32} {z : Ops} (hc : 420 * s + c ≤ 840) : ∀ (bs : List Brn) (k e : Nat), mPre s G c k bs e → e + 1 ≤ 260 → (∃ a, G 25 e = 0 ∧ G 28 e = nI a ∧ G 29 e = nI (a + z.length) ∧ mOps (G 30) (G 31) a z ∧ a + z.length ≤ 840 ∧ opsOk 16 z 0 1) → mLaw G k (e + 1) bs z
  | [], k, e, g, he, h => by
    have g : k = e := g
    subst g
    obtain ⟨a, h1, h2, h3, h4, h5, h6⟩ := h
    exact ⟨a, h1, h2, h3, h4, h5, h6, rfl, he⟩
  | q :: bs, k, e, g, he, h => by
    have := mPre_le bs _ _ g.2
    obtain ⟨⟨a, g0, g1, g2, g3, g4, g5, g6, g7, g8, g9, g10⟩, g11⟩ := g
    exact ⟨⟨a, g1, g2, g3, g4, g5, g6, g7, g8, by omega, g10⟩, by omega, mLaw_of hc bs (k + 1) e g11 he h⟩
theorem mLawS_of {s c : Nat} {G : Nat → Nat → Int32} {z : Ops} {bs : List Brn} {k e : Nat} (hs : s < 2) (hc : c ≤ 420) (h : mPre s G c k bs e) (hk : 130 * s ≤ k) (he : e + 1 ≤ 130 * s + 130)
    (hz : ∃ a, 420 * s ≤ a ∧ G 25 e = 0 ∧ G 28 e = nI a ∧ G 29 e = nI (a + z.length) ∧ mOps (G 30) (G 31) a z ∧ a + z.length ≤ 420 * s + c ∧ opsOk 16 z 0 1) : mLawS s G k (e + 1) bs z := fun G' hG => by
  have hke := mPre_le bs _ _ h
  have r1 : ∀ r i, 25 ≤ r → r ≤ 29 → k ≤ i → i ≤ e → G' r i = G r i := fun r i a b c d => hG r i a (by omega) (by rw [wd_130 r (by omega) a]; omega) (by rw [wd_130 r (by omega) a]; omega)
  have r2 : ∀ i, 420 * s ≤ i → i < 420 * s + c → G' 30 i = G 30 i ∧ G' 31 i = G 31 i := fun i a b => ⟨hG 30 i (by decide) (by decide) (by rw [wd_420.1]; omega) (by rw [wd_420.1]; omega), hG 31 i (by decide) (by decide) (by rw [wd_420.2]; omega) (by rw [wd_420.2]; omega)⟩
  obtain ⟨a, h0, h1, h2, h3, h4, h5, h6⟩ := hz
  refine mLaw_of (c := c) (by omega) bs k e (mPre_congr bs k e (fun r i a b c d => r1 r i a b c (by omega)) r2 (Nat.le_refl _) h) (by omega) ⟨a, ?_, ?_, ?_, ?_, by omega, h6⟩
  · rw [r1 25 e (by decide) (by decide) hke (Nat.le_refl _)]; exact h1
  · rw [r1 28 e (by decide) (by decide) hke (Nat.le_refl _)]; exact h2
  · rw [r1 29 e (by decide) (by decide) hke (Nat.le_refl _)]; exact h3
  · exact mOps_congr _ _ (fun j p r => r2 j (by omega) (by omega)) h4
/-! what the law changes in the model -/
def frLw (s : Nat) (τ τ' : hSt) : Prop := τ'.2 = τ.2 ∧ (∀ j, j ≠ 11 → j ≠ 12 → j ≠ 13 → j ≠ 14 → j ≠ 38 → j ≠ 44 → j ≠ 48 → τ'.1 0 j = τ.1 0 j) ∧ (∀ c, c ≠ 0 → ¬ (23 ≤ c ∧ c ≤ 32) → τ'.1 c = τ.1 c) ∧ ∀ c i, 23 ≤ c → c ≤ 31 → ¬ (wdM c * s ≤ i ∧ i < wdM c * s + wdM c) → τ'.1 c i = τ.1 c i
theorem frLw_trans {s : Nat} {τ τ' τ'' : hSt} (h : frLw s τ τ') (h' : frLw s τ' τ'') : frLw s τ τ'' := ⟨h'.1.trans h.1, fun j a c d e f g i => (h'.2.1 j a c d e f g i).trans (h.2.1 j a c d e f g i), fun c p q => (h'.2.2.1 c p q).trans (h.2.2.1 c p q), fun c i p q r => (h'.2.2.2 c i p q r).trans (h.2.2.2 c i p q r)⟩
theorem frLw_V {s : Nat} {τ τ' : hSt} (h : frV s τ τ') : frLw s τ τ' := by
  refine ⟨h.1, fun j a c d e _ g i => h.2.1 j a c d e g i, fun c p q => h.2.2.1 c p (by omega) (by omega) (by omega), fun c i p q r => ?_⟩
  by_cases e0 : c = 30
  · subst e0; rw [wd_420.1] at r; exact (h.2.2.2 i r).1
  · by_cases e1 : c = 31
    · subst e1; rw [wd_420.2] at r; exact (h.2.2.2 i r).2
    · rw [h.2.2.1 c (by omega) e0 e1 (by omega)]
theorem frLw_N {s : Nat} {τ τ' : hSt} (h : frN τ τ') : frLw s τ τ' := frLw_V (frV_N h)
theorem frLw_I {s c i : Nat} {v : Int32} {τ : hSt} (hc : 23 ≤ c ∧ c ≤ 31) (hi : wdM c * s ≤ i ∧ i < wdM c * s + wdM c) : frLw s τ (uI τ c i v) := ⟨rfl, fun j _ _ _ _ _ _ _ => uI_ne _ _ (by omega), fun c' p q => uI_row _ _ (by omega), fun c' i' p q r => uI_ne _ _ (fun e => r (by rw [e.1, e.2]; exact hi))⟩
theorem frLw_38 {s : Nat} {v : Int32} {τ : hSt} : frLw s τ (uI τ 0 38 v) := ⟨rfl, fun j _ _ _ _ a _ _ => uI_ne _ _ (by omega), fun c p _ => uI_row _ _ p, fun c i p _ _ => uI_ne _ _ (by omega)⟩
theorem frLw_P {s : Nat} {τ τ' : hSt} (h : frLw s τ τ') : frPM s τ τ' := by
  refine ⟨by rw [h.1], fun c _ => by rw [h.1], fun j a => h.2.1 j (fun e => a (by unfold sF; omega)) (fun e => a (by unfold sF; omega)) (fun e => a (by unfold sF; omega)) (fun e => a (by unfold sF; omega)) (fun e => a (by unfold sF; omega)) (fun e => a (by unfold sF; omega)) (fun e => a (by unfold sF; omega)), fun c i a d => ?_⟩
  by_cases q : 23 ≤ c ∧ c ≤ 32
  · by_cases r : c = 32
    · exact absurd (Or.inr (Or.inr (Or.inl r))) d
    · exact h.2.2.2 c i q.1 (by omega) (fun u => d (Or.inr (Or.inr (Or.inr ⟨by omega, by omega, u⟩))))
  · rw [h.2.2.1 c a q]
