/-! ===== PURE 64: names, in both ===== -/
def vN (p : (Nat → Nat) × Nat) : Prop := p.2 ≤ 8 ∧ ∀ j, j < p.2 → 97 ≤ p.1 j ∧ p.1 j ≤ 122
def c32 (p : (Nat → Nat) × Nat) : Int64 := Int64.ofNat (an 32 p.1 p.2)
def c27 (p : (Nat → Nat) × Nat) : Int64 := Int64.ofNat (an 27 p.1 p.2)
theorem vN_lt {B : Nat} (hB : 27 ≤ B) (hB2 : B ≤ 32) {p : (Nat → Nat) × Nat} (h : vN p) : an B p.1 p.2 < 2 ^ 63 :=
  Nat.lt_of_lt_of_le (an_lt hB p.2 h.2) (Nat.le_trans (Nat.pow_le_pow_left hB2 _) (Nat.le_trans (Nat.pow_le_pow_right (by decide) h.1) (by decide)))
theorem nm_iff {p q : (Nat → Nat) × Nat} (hp : vN p) (hq : vN q) : c32 p = c32 q ↔ c27 p = c27 q := by
  constructor
  · intro h
    obtain ⟨e1, e2⟩ := an_inj (by decide) _ _ hp.2 hq.2 (of64 (vN_lt (by decide) (by decide) hp) (vN_lt (by decide) (by decide) hq) h)
    unfold c27
    rw [← e1]
    exact congrArg Int64.ofNat (an_congr _ e2)
  · intro h
    obtain ⟨e1, e2⟩ := an_inj (by decide) _ _ hp.2 hq.2 (of64 (vN_lt (by decide) (by decide) hp) (vN_lt (by decide) (by decide) hq) h)
    unfold c32
    rw [← e1]
    exact congrArg Int64.ofNat (an_congr _ e2)
/-- the names so far, H hills and M news -/
def NmR (H M : Nat) (F : Nat → (Nat → Nat) × Nat) (σ τ : hSt) : Prop :=
  (∀ i, i < H + M → vN (F i) ∧ τ.2.1 8 i = c27 (F i)) ∧ (∀ i j, i < H + M → j < H + M → c27 (F i) = c27 (F j) → i = j) ∧
  (∀ i, i < H + M → (τ.1 9 i = 0 ∧ ∃ h, h < H ∧ τ.1 10 i = nI h ∧ σ.2.1 42 h = c32 (F i)) ∨ (τ.1 9 i = 1 ∧ ∃ m, m < M ∧ τ.1 10 i = nI m ∧ σ.2.1 43 m = c32 (F i))) ∧
  (∀ h, h < H → ∃ i, i < H + M ∧ τ.1 9 i = 0 ∧ τ.1 10 i = nI h) ∧ (∀ m, m < M → ∃ i, i < H + M ∧ τ.1 9 i = 1 ∧ τ.1 10 i = nI m)
theorem NmR_fr {H M : Nat} {F : Nat → (Nat → Nat) × Nat} {σ τ σ' τ' : hSt} (h : NmR H M F σ τ) (e1 : σ'.2.1 = σ.2.1) (e2 : τ'.2.1 = τ.2.1) (e3 : τ'.1 9 = τ.1 9) (e4 : τ'.1 10 = τ.1 10) : NmR H M F σ' τ' := by
  unfold NmR
  rw [e1, e2, e3, e4]
  exact h
theorem indexC {a N : Nat} {v : Int64} {s : hSt} (hl : N ≤ (kC a).2) (h10 : (kC a).2 ≤ 10) : ∃ x, F_X4_indexOf v a (nI N) s = some x ∧ ((x = -1 ∧ ∀ h, h < N → ¬ s.2.1 a h = v) ∨ ∃ h, h < N ∧ x = nI h ∧ s.2.1 a h = v) := by
  have f34 : F_X4_indexOf_34 s = some (-1) := rfl
  unfold F_X4_indexOf F_X4_indexOf_3
  refine lp_go N (by rw [fuel_v]; omega) (fun i w => w = nI i ∧ ∀ h, h < i → ¬ s.2.1 a h = v) _ ⟨rfl, fun h q => absurd q (by omega)⟩ (fun i w hi hw => ?_)
  obtain ⟨a1, a2⟩ := hw
  subst a1
  unfold S_X4_indexOf_3 F_X4_indexOf_3b
  rw [f34]
  by_cases hlt : i < N
  · rw [if_neg (nI_ge hlt (by omega)), if_neg (show ¬ Int32.ofNat (kC a).2 ≤ nI i from nI_ge (b := (kC a).2) (by omega) (by omega)), cG_t (inb_nI (by omega) (by omega)), cl_nI (by omega)]
    by_cases q : s.2.1 a i = v
    · right
      rw [if_pos ((lg_cmp_eq _ _).mpr q)]
      exact ⟨_, rfl, Or.inr ⟨i, hlt, rfl, q⟩⟩
    · left
      rw [if_neg (fun z => q ((lg_cmp_eq _ _).mp z))]
      unfold cL
      rw [nI_1]
      refine ⟨_, hlt, rfl, rfl, fun h hh => ?_⟩
      by_cases z : h = i
      · rw [z]; exact q
      · exact a2 h (by omega)
  · right
    rw [if_pos (nI_le (by omega) (by omega))]
    exact ⟨_, rfl, Or.inl ⟨rfl, fun h hh => a2 h (by omega)⟩⟩
theorem k42 : (kC 42).2 = 6 := by decide +kernel
theorem k43 : (kC 43).2 = 4 := by decide +kernel
/-- the model's walk over the names, for a new one -/
theorem namedM {n t k w wp N : Nat} {b : Nat → Nat} {σ τ : hSt} (hn : n ≤ 2000) (h : RdR n b t (k + 1) w wp σ τ) (hK : KK n b k ≠ 0) (hN : N ≤ 10) (e20 : τ.1 0 20 = nI N) (hw : w ≠ 0 → wp < tkP n b k) :
    ∃ τ', F_X12_named_12 0 (nI k) 0 τ = some (nI k, τ') ∧ frKM τ τ' ∧ LvM n b (k + 1) τ' ∧
      ((w ≠ 0 ∧ τ' = τ) ∨ (w = 0 ∧ (∀ i, i < N → ¬ τ.2.1 8 i = τ.2.1 6 k) ∧ τ' = τ) ∨ (w = 0 ∧ (∃ i, i < N ∧ τ.2.1 8 i = τ.2.1 6 k) ∧ τ'.1 0 15 = nI 3 ∧ τ'.1 0 16 = nI (tkP n b k))) := by
  obtain ⟨a1, a2, a3, a4, a5, a6⟩ := h
  have hk := a1.2.2.2.2.2.1
  have f55 : ∀ z, F_X12_named_55 (nI k) z = some (nI k, z) := fun _ => rfl
  unfold F_X12_named_12
  obtain ⟨x, g1, τ', g2, g3⟩ := lp_go (s := S_X12_named_12 0 (nI k)) (v := (0, τ)) N (by rw [fuel_v]; omega)
    (fun i v => ∃ τ', v = (nI i, τ') ∧ frKM τ τ' ∧ LvM n b (k + 1) τ' ∧ ((w ≠ 0 ∧ τ' = τ) ∨ (w = 0 ∧ (∀ j, j < i → ¬ τ.2.1 8 j = τ.2.1 6 k) ∧ τ' = τ) ∨ (w = 0 ∧ (∃ j, j < i ∧ τ.2.1 8 j = τ.2.1 6 k) ∧ τ'.1 0 15 = nI 3 ∧ τ'.1 0 16 = nI (tkP n b k))))
    (fun x => ∃ τ', x = (nI k, τ') ∧ frKM τ τ' ∧ LvM n b (k + 1) τ' ∧ ((w ≠ 0 ∧ τ' = τ) ∨ (w = 0 ∧ (∀ j, j < N → ¬ τ.2.1 8 j = τ.2.1 6 k) ∧ τ' = τ) ∨ (w = 0 ∧ (∃ j, j < N ∧ τ.2.1 8 j = τ.2.1 6 k) ∧ τ'.1 0 15 = nI 3 ∧ τ'.1 0 16 = nI (tkP n b k))))
    ⟨τ, rfl, frKM_rfl, a2, by
      by_cases q : w = 0
      · exact Or.inr (Or.inl ⟨q, fun j z => absurd z (by omega), rfl⟩)
      · exact Or.inl ⟨q, rfl⟩⟩ (fun i v hi hv => by
      obtain ⟨τ1, b1, b2, b3, b4⟩ := hv
      subst b1
      have hQ := b3.1
      unfold S_X12_named_12 F_X12_named_12b
      dsimp only
      rw [b2.2.1 20 (by decide) (by decide) (by decide) (by decide) (by decide), e20, f55]
      by_cases hlt : i < N
      · left
        have e49 : ∀ z, F_X12_named_49 0 (nI k) (nI i) z = some (.inl (nI (i + 1), z)) := fun z => by
          unfold F_X12_named_49 cL
          rw [nI_1]
        rw [if_neg (nI_ge hlt (by omega)), b3.2.2.2.2.2, if_pos rfl, rM_21 hQ, cG_t (inb_nI (by rw [kM_8]; omega) (by decide)), rM_8 hQ, cG_t (inb_nI (by rw [kM_6]; omega) (by decide)), cl_nI (by omega), cl_nI (by omega), b2.1]
        by_cases q : τ.2.1 8 i = τ.2.1 6 k
        · rw [if_pos ((lg_cmp_eq _ _).mpr q)]
          obtain ⟨c, c1, c2⟩ := b3.2.1
          have hkc : k < c := Nat.lt_of_succ_lt (cov c1 hk b3.2.2.1)
          rcases b4 with ⟨w0, e⟩ | ⟨w0, w1, e⟩ | ⟨w0, w1, w2, w3⟩
          · subst e
            obtain ⟨τ2, p1, p2, p3, p4, p5⟩ := wrongM (f := 3) (wp := wp) b3 c2 hkc c1.1 a4 a5 (fun z => ⟨(a6 z).2.1, Or.inl (hw z)⟩) (tkP_30 hn)
            have := p5 w0
            subst this
            rw [show F_X12_wrong 0 (3 : Int32) (nI k) τ2 = F_X12_wrong 0 (nI 3) (nI k) τ2 from rfl, p1, Option.bind_some, e49]
            exact ⟨_, hlt, rfl, _, rfl, b2, b3, Or.inl ⟨w0, rfl⟩⟩
          · subst e
            obtain ⟨τ2, p1, p2, p3, p4, p5⟩ := wrongM (f := 3) (wp := wp) b3 c2 hkc c1.1 a4 a5 (fun z => absurd w0 z) (tkP_30 hn)
            obtain ⟨x1, x2⟩ := p4 w0
            rw [show F_X12_wrong 0 (3 : Int32) (nI k) τ1 = F_X12_wrong 0 (nI 3) (nI k) τ1 from rfl, p1, Option.bind_some, e49]
            exact ⟨_, hlt, rfl, _, rfl, p2, p3, Or.inr (Or.inr ⟨w0, ⟨i, by omega, q⟩, x1, x2⟩)⟩
          · obtain ⟨τ2, p1, p2, p3, p4, p5⟩ := wrongM (f := 3) (w := 3) (wp := tkP n b k) b3 c2 hkc c1.1 w2 (by decide) (fun _ => ⟨w3, Or.inr ⟨rfl, rfl⟩⟩) (tkP_30 hn)
            have := p5 (by decide)
            subst this
            rw [show F_X12_wrong 0 (3 : Int32) (nI k) τ2 = F_X12_wrong 0 (nI 3) (nI k) τ2 from rfl, p1, Option.bind_some, e49]
            exact ⟨_, hlt, rfl, _, rfl, b2, b3, Or.inr (Or.inr ⟨w0, ⟨i, by omega, q⟩, w2, w3⟩)⟩
        · rw [if_neg (fun z => q ((lg_cmp_eq _ _).mp z)), e49]
          refine ⟨_, hlt, rfl, _, rfl, b2, b3, ?_⟩
          rcases b4 with z | ⟨w0, w1, e⟩ | ⟨w0, ⟨j, w1, w2⟩, w3⟩
          · exact Or.inl z
          · refine Or.inr (Or.inl ⟨w0, fun j hj => ?_, e⟩)
            by_cases z : j = i
            · rw [z]; exact q
            · exact w1 j (by omega)
          · exact Or.inr (Or.inr ⟨w0, ⟨j, by omega, w2⟩, w3⟩)
      · right
        have : i = N := by omega
        subst this
        rw [if_pos (nI_le (by omega) (by omega))]
        exact ⟨_, rfl, τ1, rfl, b2, b3, b4⟩)
  exact ⟨τ', by rw [g1, g2], g3⟩
