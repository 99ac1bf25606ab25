/-! ===== PURE 67: the text so far, in both ===== -/
def frPC (t : Nat) (s s' : hSt) : Prop := s'.2.2 = s.2.2 ∧ (∀ c, c ≠ 42 → c ≠ 43 → s'.2.1 c = s.2.1 c) ∧ ∀ c, c ≠ 37 → ¬ (t ≤ c ∧ c < t + 14) → s'.1 c = s.1 c
def sR (s c i : Nat) : Prop := c = 9 ∨ c = 10 ∨ c = 32 ∨ (11 ≤ c ∧ c ≤ 31 ∧ wdM c * s ≤ i ∧ i < wdM c * s + wdM c)
def sF (j : Nat) : Prop := (11 ≤ j ∧ j ≤ 16) ∨ j = 20 ∨ j = 38 ∨ j = 44 ∨ j = 48
def frPM (s : Nat) (τ τ' : hSt) : Prop := τ'.2.2 = τ.2.2 ∧ (∀ c, c ≠ 8 → τ'.2.1 c = τ.2.1 c) ∧ (∀ j, ¬ sF j → τ'.1 0 j = τ.1 0 j) ∧ ∀ c i, c ≠ 0 → ¬ sR s c i → τ'.1 c i = τ.1 c i
theorem frPC_rfl {t : Nat} {s : hSt} : frPC t s s := ⟨rfl, fun _ _ _ => rfl, fun _ _ _ => rfl⟩
theorem frPC_trans {t : Nat} {s s' s'' : hSt} (h : frPC t s s') (h' : frPC t s' s'') : frPC t s s'' := ⟨h'.1.trans h.1, fun c a d => (h'.2.1 c a d).trans (h.2.1 c a d), fun c a d => (h'.2.2 c a d).trans (h.2.2 c a d)⟩
theorem frPC_K {t : Nat} {s s' : hSt} (h : frKC s s') : frPC t s s' := ⟨by rw [h.1], fun c _ _ => by rw [h.1], fun c a _ => h.2 c a⟩
theorem frPC_X {t : Nat} {s s' : hSt} (h : frX t s s') : frPC t s s' := ⟨by rw [h.1], fun c _ _ => by rw [h.1], fun c a d => h.2.2.2 c a (by omega) (by omega)⟩
theorem frPC_I {t : Nat} {s : hSt} {c j : Nat} {v : Int32} (h : t ≤ c ∧ c < t + 14) : frPC t s (uI s c j v) := ⟨rfl, fun _ _ _ => rfl, fun c' _ a => uI_row _ _ (fun e => a (by rw [e]; exact h))⟩
theorem uJ_row (σ : hSt) {c k : Nat} (v : Int64) {c' : Nat} (h : c' ≠ c) : (uJ σ c k v).2.1 c' = σ.2.1 c' := by funext k'; rw [uJ_J, if_neg (fun q => h q.1)]
theorem frPC_J {t : Nat} {s : hSt} {c j : Nat} {v : Int64} (h : c = 42 ∨ c = 43) : frPC t s (uJ s c j v) := ⟨rfl, fun c' a d => uJ_row _ _ (by omega), fun c' _ a => rfl⟩
theorem frPM_rfl {s : Nat} {τ : hSt} : frPM s τ τ := ⟨rfl, fun _ _ => rfl, fun _ _ => rfl, fun _ _ _ _ => rfl⟩
theorem frPM_trans {s : Nat} {τ τ' τ'' : hSt} (h : frPM s τ τ') (h' : frPM s τ' τ'') : frPM s τ τ'' := ⟨h'.1.trans h.1, fun c a => (h'.2.1 c a).trans (h.2.1 c a), fun c a => (h'.2.2.1 c a).trans (h.2.2.1 c a), fun c i a d => (h'.2.2.2 c i a d).trans (h.2.2.2 c i a d)⟩
theorem frPM_K {s : Nat} {τ τ' : hSt} (h : frKM τ τ') : frPM s τ τ' := ⟨by rw [h.1], fun c _ => by rw [h.1], fun j a => h.2.1 j (fun e => a (by unfold sF; omega)) (fun e => a (by unfold sF; omega)) (fun e => a (by unfold sF; omega)) (fun e => a (by unfold sF; omega)) (fun e => a (by unfold sF; omega)), fun c i a _ => by rw [h.2.2 c a]⟩
theorem frPM_N {s : Nat} {τ τ' : hSt} (h : frN τ τ') : frPM s τ τ' := frPM_K (frKM_N h)
theorem frPM_I {s : Nat} {τ : hSt} {c i : Nat} {v : Int32} (h : sR s c i) (h0 : c ≠ 0) : frPM s τ (uI τ c i v) := ⟨rfl, fun _ _ => rfl, fun j _ => uI_ne _ _ (fun q => h0 q.1.symm), fun c' i' _ a => uI_ne _ _ (fun q => a (by rw [q.1, q.2]; exact h))⟩
theorem frPM_F {s : Nat} {τ : hSt} {j : Nat} {v : Int32} (h : sF j) : frPM s τ (uI τ 0 j v) := ⟨rfl, fun _ _ => rfl, fun j' a => uI_ne _ _ (fun q => a (by rw [q.2]; exact h)), fun c' i' a _ => uI_ne _ _ (fun q => a q.1)⟩
theorem frPM_J {s : Nat} {τ : hSt} {j : Nat} {v : Int64} : frPM s τ (uJ τ 8 j v) := ⟨rfl, fun c a => uJ_row _ _ a, fun _ _ => rfl, fun _ _ _ _ => rfl⟩
theorem sR_of {s c i w : Nat} (h1 : 11 ≤ c) (h2 : c ≤ 31) (hw : wdM c = w) (hi : i < w) : sR s c (w * s + i) := by
  subst hw
  exact Or.inr (Or.inr (Or.inr ⟨h1, h2, by omega, by omega⟩))
theorem sR_1 {s c : Nat} (h1 : 11 ≤ c) (h2 : c ≤ 31) (hw : wdM c = 1) : sR s c s := by
  refine Or.inr (Or.inr (Or.inr ⟨h1, h2, ?_, ?_⟩)) <;> rw [hw] <;> omega
/-! the data -/
def CX (t : Nat) (D : TxD) (G : Nat → Nat → Int32) : Prop := ∀ i, i < tH D → G (t + 1) i = nI (tX D i) ∧ G (t + 2) i = nI (tY D i)
def CH (t : Nat) (D : TxD) (G : Nat → Nat → Int32) : Prop := ∀ m, m < tM D → G (t + 3) m = nI (tHm D m)
def CL (t : Nat) (D : TxD) (G : Nat → Nat → Int32) : Prop := ∃ L, L ≤ 401 ∧ G (t + 4) 2 = nI L ∧ cLaw (G (t + 5)) L 0 (tbs D) (tz D)
def CW (t : Nat) (D : TxD) (G : Nat → Nat → Int32) : Prop := G (t + 7) 1 = nI (tWn D) ∧ ∀ i, i < tWn D → G (t + 8) i = nI (tW D i)
def CF (t : Nat) (D : TxD) (G : Nat → Nat → Int32) : Prop := G (t + 9) 1 = nI (tFn D) ∧ ∀ i, i < tFn D → G (t + 10) i = nI (tF D i)
def CSl (t : Nat) (D : TxD) (G : Nat → Nat → Int32) : Prop := ∀ i, i < tS D → G (t + 11) i = nI (tA D i) ∧ G (t + 12) i = nI (tB D i) ∧ G (t + 13) i = nI (tD D i)
def MX (s : Nat) (D : TxD) (G : Nat → Nat → Int32) : Prop := ∀ i, i < tH D → G 12 (6 * s + i) = nI (tX D i) ∧ G 13 (6 * s + i) = nI (tY D i)
def MH (s : Nat) (D : TxD) (G : Nat → Nat → Int32) : Prop := ∀ m, m < tM D → G 15 (4 * s + m) = nI (tHm D m)
def ML (s : Nat) (D : TxD) (G : Nat → Nat → Int32) : Prop := ∃ k e, G 23 s = nI k ∧ G 24 s = nI e ∧ ((k = e ∧ k < 260 ∧ tbs D = [] ∧ tz D = usualZ) ∨ mLawS s G k e (tbs D) (tz D))
def MW (s : Nat) (D : TxD) (G : Nat → Nat → Int32) : Prop := G 16 (2 * s) = nI (tWn D) ∧ ∀ i, i < tWn D → G 17 (12 * (2 * s) + i) = nI (tW D i)
def MF (s : Nat) (D : TxD) (G : Nat → Nat → Int32) : Prop := G 16 (2 * s + 1) = nI (tFn D) ∧ ∀ i, i < tFn D → G 17 (12 * (2 * s + 1) + i) = nI (tF D i)
def MS (s : Nat) (D : TxD) (G : Nat → Nat → Int32) : Prop := ∀ i, i < tS D → G 20 (4 * s + i) = nI (tA D i) ∧ G 21 (4 * s + i) = nI (tB D i) ∧ G 22 (4 * s + i) = nI (tD D i)
/-- the text so far, with no fault of the meaning -/
def TW (t s : Nat) (D : TxD) (F : Nat → (Nat → Nat) × Nat) (σ τ : hSt) : Prop :=
  TXok D ∧ (σ.1 t 8 = nI (tO D) ∧ CX t D σ.1 ∧ CH t D σ.1 ∧ CL t D σ.1 ∧ CW t D σ.1 ∧ CF t D σ.1 ∧ CSl t D σ.1) ∧
  (τ.1 18 s = nI (tO D) ∧ MX s D τ.1 ∧ MH s D τ.1 ∧ ML s D τ.1 ∧ MW s D τ.1 ∧ MF s D τ.1 ∧ MS s D τ.1) ∧ NmR (tH D) (tM D) F σ τ
/-- the counts so far -/
def TN (t s : Nat) (D : TxD) (k : Nat) (σ τ : hSt) : Prop :=
  s < 2 ∧ (tH D ≤ 6 ∧ tM D ≤ 4 ∧ tS D ≤ 4) ∧ (σ.1 t 0 = nI (tH D) ∧ σ.1 t 3 = nI (tM D) ∧ σ.1 t 9 = nI (tS D)) ∧
  (τ.1 0 19 = nI s ∧ τ.1 11 s = nI (tH D) ∧ τ.1 14 s = nI (tM D) ∧ τ.1 19 s = nI (tS D) ∧ τ.1 0 20 = nI (tH D + tM D) ∧ τ.1 0 12 = 0) ∧
  ∃ c e, τ.1 0 44 = nI (420 * s + c) ∧ c ≤ k ∧ τ.1 0 38 = nI (130 * s + e) ∧ 4 * e ≤ k
def PR (n : Nat) (b : Nat → Nat) (t s k : Nat) (σ τ : hSt) : Prop := ∃ w wp D F, RdR n b t k w wp σ τ ∧ TN t s D k σ τ ∧ (w = 0 → TW t s D F σ τ)
/-- what comes behind a tell -/
def OutT (n : Nat) (b : Nat → Nat) (t s k : Nat) (σ τ : hSt) (o o' : Option hSt) : Prop := ∃ σ' τ', o = some σ' ∧ o' = some τ' ∧ frPC t σ σ' ∧ frPM s τ τ' ∧ ((∃ k', k < k' ∧ PR n b t s k' σ' τ') ∨ DdR n b t σ' τ')
/-- the head's word taken, and the model goes on -/
theorem both_go {n t k w wp x : Nat} {b : Nat → Nat} {σ τ : hSt} (hb : ∀ i, b i < 256) (h : RdR n b t k w wp σ τ) (hx : KK n b k = x) (hx0 : x ≠ 0) (hx2 : x < 256) :
    ∃ v σ' τ', F_X4_take 37 (nI x) σ = some (v, σ') ∧ F_X12_goesOn 0 τ = some τ' ∧ frT σ σ' ∧ frN τ τ' ∧ (RdR n b t (k + 1) w wp σ' τ' ∨ (DdC n b t 2 k σ' ∧ DdM n b 2 k τ')) := by
  obtain ⟨v, σ', g1, g2, g3⟩ := takeA (w := x) h.1 hb hx2
  obtain ⟨τ', p1, p2, p3⟩ := goA h.2.1 (by rw [hx]; exact hx0)
  refine ⟨v, σ', τ', g1, p1, g2, p2, ?_⟩
  rcases g3 with ⟨a1, a2, a3, a4⟩ | ⟨a1, a2, a3⟩
  · rcases p3 with ⟨c1, c2⟩ | ⟨c1, c2⟩
    · exact Or.inl (RdR_b h a4 c2 g2 p2 (by rw [hx]; exact hx0))
    · omega
  · rw [if_pos hx] at a3
    rcases p3 with ⟨c1, c2⟩ | ⟨c1, c2⟩
    · exact absurd ⟨hx, c1⟩ a1
    · exact Or.inr ⟨a3, c2⟩
def addF (F : Nat → (Nat → Nat) × Nat) (N : Nat) (p : (Nat → Nat) × Nat) : Nat → (Nat → Nat) × Nat := fun i => if i = N then p else F i
theorem addF_y {F : Nat → (Nat → Nat) × Nat} {N i : Nat} {p : (Nat → Nat) × Nat} (h : i = N) : addF F N p i = p := if_pos h
theorem addF_n {F : Nat → (Nat → Nat) × Nat} {N i : Nat} {p : (Nat → Nat) × Nat} (h : ¬ i = N) : addF F N p i = F i := if_neg h
/-- names: one more -/
theorem NmR_addH {H M : Nat} {F : Nat → (Nat → Nat) × Nat} {σ τ σ' τ' : hSt} {p : (Nat → Nat) × Nat} (h : NmR H M F σ τ) (hp : vN p) (hn : ∀ i, i < H + M → ¬ c27 (F i) = c27 p)
    (e42 : ∀ j, σ'.2.1 42 j = if j = H then c32 p else σ.2.1 42 j) (e43 : ∀ j, σ'.2.1 43 j = σ.2.1 43 j) (e8 : ∀ j, τ'.2.1 8 j = if j = H + M then c27 p else τ.2.1 8 j) (e9 : ∀ j, τ'.1 9 j = if j = H + M then 0 else τ.1 9 j) (e10 : ∀ j, τ'.1 10 j = if j = H + M then nI H else τ.1 10 j) :
    NmR (H + 1) M (addF F (H + M) p) σ' τ' := by
  obtain ⟨n1, n2, n3, n4, n5⟩ := h
  refine ⟨fun i hi => ?_, fun i j hi hj e => ?_, fun i hi => ?_, fun x hx => ?_, fun m hm => ?_⟩
  · by_cases q : i = H + M
    · rw [e8, if_pos q, addF_y q]; exact ⟨hp, rfl⟩
    · rw [e8, if_neg q, addF_n q]; exact n1 i (by omega)
  · by_cases q : i = H + M
    · by_cases r : j = H + M
      · omega
      · rw [addF_y q, addF_n r] at e
        exact absurd e.symm (hn j (by omega))
    · by_cases r : j = H + M
      · rw [addF_n q, addF_y r] at e
        exact absurd e (hn i (by omega))
      · rw [addF_n q, addF_n r] at e
        exact n2 i j (by omega) (by omega) e
  · by_cases q : i = H + M
    · rw [e9, e10, if_pos q, if_pos q, addF_y q]
      exact Or.inl ⟨rfl, H, by omega, rfl, by rw [e42, if_pos rfl]⟩
    · rw [e9, e10, if_neg q, if_neg q, addF_n q]
      rcases n3 i (by omega) with ⟨y, x, x1, x2, x3⟩ | ⟨y, x, x1, x2, x3⟩
      · exact Or.inl ⟨y, x, by omega, x2, by rw [e42, if_neg (by omega)]; exact x3⟩
      · exact Or.inr ⟨y, x, x1, x2, by rw [e43]; exact x3⟩
  · by_cases q : x = H
    · exact ⟨H + M, by omega, by rw [e9, if_pos rfl], by rw [e10, if_pos rfl, q]⟩
    · obtain ⟨i, i1, i2, i3⟩ := n4 x (by omega)
      exact ⟨i, by omega, by rw [e9, if_neg (by omega)]; exact i2, by rw [e10, if_neg (by omega)]; exact i3⟩
  · obtain ⟨i, i1, i2, i3⟩ := n5 m hm
    exact ⟨i, by omega, by rw [e9, if_neg (by omega)]; exact i2, by rw [e10, if_neg (by omega)]; exact i3⟩
theorem NmR_addM {H M : Nat} {F : Nat → (Nat → Nat) × Nat} {σ τ σ' τ' : hSt} {p : (Nat → Nat) × Nat} (h : NmR H M F σ τ) (hp : vN p) (hn : ∀ i, i < H + M → ¬ c27 (F i) = c27 p)
    (e42 : ∀ j, σ'.2.1 42 j = σ.2.1 42 j) (e43 : ∀ j, σ'.2.1 43 j = if j = M then c32 p else σ.2.1 43 j) (e8 : ∀ j, τ'.2.1 8 j = if j = H + M then c27 p else τ.2.1 8 j) (e9 : ∀ j, τ'.1 9 j = if j = H + M then 1 else τ.1 9 j) (e10 : ∀ j, τ'.1 10 j = if j = H + M then nI M else τ.1 10 j) :
    NmR H (M + 1) (addF F (H + M) p) σ' τ' := by
  obtain ⟨n1, n2, n3, n4, n5⟩ := h
  refine ⟨fun i hi => ?_, fun i j hi hj e => ?_, fun i hi => ?_, fun x hx => ?_, fun m hm => ?_⟩
  · by_cases q : i = H + M
    · rw [e8, if_pos q, addF_y q]; exact ⟨hp, rfl⟩
    · rw [e8, if_neg q, addF_n q]; exact n1 i (by omega)
  · by_cases q : i = H + M
    · by_cases r : j = H + M
      · omega
      · rw [addF_y q, addF_n r] at e
        exact absurd e.symm (hn j (by omega))
    · by_cases r : j = H + M
      · rw [addF_n q, addF_y r] at e
        exact absurd e (hn i (by omega))
      · rw [addF_n q, addF_n r] at e
        exact n2 i j (by omega) (by omega) e
  · by_cases q : i = H + M
    · rw [e9, e10, if_pos q, if_pos q, addF_y q]
      exact Or.inr ⟨rfl, M, by omega, rfl, by rw [e43, if_pos rfl]⟩
    · rw [e9, e10, if_neg q, if_neg q, addF_n q]
      rcases n3 i (by omega) with ⟨y, x, x1, x2, x3⟩ | ⟨y, x, x1, x2, x3⟩
      · exact Or.inl ⟨y, x, x1, x2, by rw [e42]; exact x3⟩
      · exact Or.inr ⟨y, x, by omega, x2, by rw [e43, if_neg (by omega)]; exact x3⟩
  · obtain ⟨i, i1, i2, i3⟩ := n4 x hx
    exact ⟨i, by omega, by rw [e9, if_neg (by omega)]; exact i2, by rw [e10, if_neg (by omega)]; exact i3⟩
  · by_cases q : m = M
    · exact ⟨H + M, by omega, by rw [e9, if_pos rfl], by rw [e10, if_pos rfl, q]⟩
    · obtain ⟨i, i1, i2, i3⟩ := n5 m (by omega)
      exact ⟨i, by omega, by rw [e9, if_neg (by omega)]; exact i2, by rw [e10, if_neg (by omega)]; exact i3⟩
/-- the head of a tell, in the model -/
theorem tellM_head {n k : Nat} {b : Nat → Nat} {s : hSt} (h : LvM n b k s) : HM s.2.2 ∧ s.1 0 11 = nI k ∧ inb (nI k) (kM 3).2 = true ∧ (nI k).toNatClampNeg = k ∧ s.1 3 k = nI (mkK (KK n b k)) := by
  have hk := h.2.2.2.2.1
  exact ⟨h.1, h.2.2.2.1, inb_nI (by rw [kM_3]; omega) (by decide), cl_nI (by omega), (LvM_tok h).1⟩
