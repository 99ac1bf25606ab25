/-! ===== PURE 32: who hears whom on a day, in the model ===== -/
/-- the usual law -/
def usualZ : Ops := [(0, 10), (1, 0), (3, 0)]
theorem lawV_usual {V : Nat → Int32} : lawV V [] usualZ = 10 - V 0 := rfl
/-- the words, as the model keeps them -/
def kyL : List Int64 := [164361, 279847, 47, 4351177, 459652, 4786, 8328978, 131360, 10935975, 1132, 8371260, 7535943612, 249, 399641, 107681, 4419, 2968, 131638, 555]
def kyV (k : Nat) : Int64 := kyL.getD k 0
/-- how much of a cell a text's side has -/
def wdM (c : Nat) : Nat := if c = 12 ∨ c = 13 then 6 else if c = 15 ∨ c = 20 ∨ c = 21 ∨ c = 22 then 4 else if c = 16 then 2 else if c = 17 then 24 else if 25 ≤ c ∧ c ≤ 29 then 130 else if c = 30 ∨ c = 31 then 420 else 1
/-- the law lies in its side's part of the cells -/
def mLawS (li : Nat) (G : Nat → Nat → Int32) (k e : Nat) (bs : List (Ops × Ops × Ops)) (z : Ops) : Prop := ∀ G' : Nat → Nat → Int32, (∀ c i, 25 ≤ c → c ≤ 31 → wdM c * li ≤ i → i < wdM c * li + wdM c → G' c i = G c i) → mLaw G' k e bs z
theorem mLawS_G {li : Nat} {G : Nat → Nat → Int32} {k e : Nat} {bs : List (Ops × Ops × Ops)} {z : Ops} (h : mLawS li G k e bs z) : mLaw G k e bs z := h G (fun _ _ _ _ _ _ => rfl)
/-- the model's live text -/
def TM (li : Nat) (D : TxD) (τ : hSt) : Prop :=
  HM τ.2.2 ∧ (τ.1 0 18 = nI li ∧ li < 2) ∧ (τ.1 11 li = nI (tH D) ∧ τ.1 14 li = nI (tM D) ∧ τ.1 18 li = nI (tO D) ∧ τ.1 19 li = nI (tS D)) ∧ (∀ i, i < tH D → τ.1 12 (6 * li + i) = nI (tX D i) ∧ τ.1 13 (6 * li + i) = nI (tY D i)) ∧ (∀ m, m < tM D → τ.1 15 (4 * li + m) = nI (tHm D m)) ∧
  (∃ k e, τ.1 23 li = nI k ∧ τ.1 24 li = nI e ∧ ((k = e ∧ k < 260 ∧ tbs D = [] ∧ tz D = usualZ) ∨ mLawS li τ.1 k e (tbs D) (tz D))) ∧ (τ.1 16 (2 * li) = nI (tWn D) ∧ ∀ i, i < tWn D → τ.1 17 (12 * (2 * li) + i) = nI (tW D i)) ∧ (τ.1 16 (2 * li + 1) = nI (tFn D) ∧ ∀ i, i < tFn D → τ.1 17 (12 * (2 * li + 1) + i) = nI (tF D i)) ∧
  (∀ i, i < tS D → τ.1 20 (4 * li + i) = nI (tA D i) ∧ τ.1 21 (4 * li + i) = nI (tB D i) ∧ τ.1 22 (4 * li + i) = nI (tD D i)) ∧ (∀ k, k < 19 → τ.2.1 7 k = kyV k)
theorem TM_fr {li : Nat} {D : TxD} {τ τ' : hSt} (h : TM li D τ) (h2 : τ'.2 = τ.2) (h0 : τ'.1 0 18 = τ.1 0 18) (e : ∀ k, 11 ≤ k → k ≤ 31 → τ'.1 k = τ.1 k) : TM li D τ' := by
  obtain ⟨a1, a2, a3, a4, a5, ⟨k, x, b1, b2, b3⟩, a7, a8, a9, a10⟩ := h
  unfold TM
  rw [h2, h0, e 11 (by decide) (by decide), e 12 (by decide) (by decide), e 13 (by decide) (by decide), e 14 (by decide) (by decide), e 15 (by decide) (by decide), e 16 (by decide) (by decide), e 17 (by decide) (by decide), e 18 (by decide) (by decide), e 19 (by decide) (by decide), e 20 (by decide) (by decide), e 21 (by decide) (by decide), e 22 (by decide) (by decide), e 23 (by decide) (by decide), e 24 (by decide) (by decide)]
  exact ⟨a1, a2, a3, a4, a5, ⟨k, x, b1, b2, b3.imp id (fun q G' hG => q G' (fun c i p r p' r' => (hG c i p r p' r').trans (congrFun (e c (by omega) (by omega)) i)))⟩, a7, a8, a9, a10⟩
/-- what the ears leave in the model: all but variables, pile, isBroken -/
def frW (τ τ' : hSt) : Prop := τ'.2 = τ.2 ∧ (∀ j, j ≠ 51 → τ'.1 0 j = τ.1 0 j) ∧ ∀ k, k ≠ 0 → k ≠ 33 → k ≠ 34 → τ'.1 k = τ.1 k
theorem frW_rfl {τ : hSt} : frW τ τ := ⟨rfl, fun _ _ => rfl, fun _ _ _ _ => rfl⟩
theorem TM_W {li : Nat} {D : TxD} {τ τ' : hSt} (h : TM li D τ) (f : frW τ τ') : TM li D τ' := TM_fr h f.1 (f.2.1 18 (by decide)) (fun k a b => f.2.2 k (by omega) (by omega) (by omega))
theorem weatherM_eq {li k n d : Nat} {w : Nat → Nat} {τ : hSt} (hP : HM τ.2.2) (h18 : τ.1 0 18 = nI li) (hli : li < 2) (hk : k < 2) (hn : n ≤ 12) (e : τ.1 16 (2 * li + k) = nI n) (hw : ∀ i, i < n → τ.1 17 (12 * (2 * li + k) + i) = nI (w i)) (hd : d < 2 ^ 30) :
    F_X12_weatherOn 0 (nI k) (nI d) τ = some (nI (won n w d)) := by
  unfold F_X12_weatherOn cL won
  rw [rM_29 hP, h18]
  simp only [show (2 : Int32) = nI 2 from rfl, show (12 : Int32) = nI 12 from rfl, pk_mul, nI_add]
  rw [cG_t (inb_nI (by rw [kM_16]; omega) (by decide)), cl_nI (by omega), e]
  by_cases h0 : n = 0
  · subst h0
    rw [if_pos nI_0, if_pos rfl]
    rfl
  · have hm := Nat.mod_lt d (show n > 0 by omega)
    rw [if_neg (nI_ne0 (by omega) (by omega)), if_neg h0, rM_30 hP, cG_t (by simpa using nI_ne0 (show 0 < n by omega) (show n < 2 ^ 31 by omega)), pk_rem (by omega) (by omega) (by omega), nI_add, cG_t (inb_nI (by rw [kM_17]; omega) (by decide)), cl_nI (by omega), hw _ hm]
    rfl
theorem apartM_eq {x y : Nat} {τ : hSt} (hx : x < 100) (hy : y < 100) : F_X12_apart (nI x) (nI y) τ = some (nI (apN x y)) := by
  have := (abs_ap x hx y hy).2
  unfold F_X12_apart F_X12_apart_14
  rw [← this]
  by_cases h : nI y ≤ nI x
  · rw [if_pos h, if_pos h]
  · rw [if_neg h, if_neg h]
theorem tellsM_eq {li a b d : Nat} {D : TxD} {τ : hSt} (hD : TXok D) (hT : TM li D τ) (ha : a < tH D) (hb : b < tH D) (hd : d < 2 ^ 30) :
    ∃ τ', F_X12_tellsOf 0 (nI a) (nI b) (nI d) τ = some (lawD D d a b, τ') ∧ frW τ τ' := by
  obtain ⟨hP, ⟨h18, hli⟩, -, hxy, -, ⟨k, e, hk, he, hlaw⟩, ⟨hw1, hw2⟩, ⟨hf1, hf2⟩, -⟩ := hT
  obtain ⟨d1, -, -, -, d5, d6, d7, -⟩ := hD
  obtain ⟨x1, y1⟩ := hxy a ha
  obtain ⟨x2, y2⟩ := hxy b hb
  have A : ∀ f, HM (uA τ 33 f).2.2 := fun _ => hP
  have k1 : ∀ f k, k ≠ 33 → (uA τ 33 f).1 k = τ.1 k := fun f k h => uA_row _ _ h
  have g6 : ∀ x : Int32, inb x 6 = true → inb x (kM 33).2 = true := fun x h => h
  have h260 : k ≤ 260 ∧ e ≤ 260 := by
    rcases hlaw with q | q
    · omega
    · have := mLaw_e _ _ _ _ (mLawS_G q); omega
  unfold F_X12_tellsOf cL
  dsimp only
  rw [rM_25 hP, h18]
  simp only [show (6 : Int32) = nI 6 from rfl, pk_mul, nI_add]
  rw [cG_t (inb_nI (by rw [kM_12]; omega) (by decide)), rM_25 hP, cG_t (inb_nI (by rw [kM_12]; omega) (by decide)), cl_nI (by omega), cl_nI (by omega), x1, x2, apartM_eq (d7 a ha).1 (d7 b hb).1]
  simp only [Option.bind_some]
  rw [rM_26 hP, cG_t (inb_nI (by rw [kM_13]; omega) (by decide)), rM_26 hP, cG_t (inb_nI (by rw [kM_13]; omega) (by decide)), y1, y2, apartM_eq (d7 a ha).2 (d7 b hb).2]
  simp only [Option.bind_some]
  rw [rM_36 hP, cG_t (inb_nI (by rw [kM_23]; omega) (by decide)), rM_37 hP, cG_t (inb_nI (by rw [kM_24]; omega) (by decide)), cl_nI (by omega), hk, he, nI_add]
  by_cases hke : k = e
  · have hu : tbs D = [] ∧ tz D = usualZ := by
      rcases hlaw with q | q
      · exact q.2.2
      · have := mLaw_e _ _ _ _ (mLawS_G q); omega
    rw [if_pos (by rw [hke])]
    refine ⟨τ, ?_, frW_rfl⟩
    unfold lawD
    rw [hu.1, hu.2, lawV_usual]
    rfl
  · have hm : mLaw τ.1 k e (tbs D) (tz D) := by
      rcases hlaw with q | q
      · exact absurd q.1 hke
      · exact mLawS_G q
    have w0 : ∀ f, F_X12_weatherOn 0 (0 : Int32) (nI d) (uA τ 33 f) = some (nI (won (tWn D) (tW D) d)) := fun f => weatherM_eq (τ := uA τ 33 f) (k := 0) (A f) (by rw [k1 _ _ (by decide)]; exact h18) hli (by decide) d5 (by rw [k1 _ _ (by decide)]; exact hw1) (fun i hi => by rw [k1 _ _ (by decide)]; exact hw2 i hi) hd
    have w1 : ∀ f, F_X12_weatherOn 0 (1 : Int32) (nI d) (uA τ 33 f) = some (nI (won (tFn D) (tF D) d)) := fun f => weatherM_eq (τ := uA τ 33 f) (k := 1) (A f) (by rw [k1 _ _ (by decide)]; exact h18) hli (by decide) d6 (by rw [k1 _ _ (by decide)]; exact hf1) (fun i hi => by rw [k1 _ _ (by decide)]; exact hf2 i hi) hd
    rw [if_neg (fun z => hke ((nI_eq (by omega) (by omega)).mp z)), rM_49 hP, cG_t (g6 0 (by decide)), uI_as, rM_49 (A _), w0]
    simp only [Option.bind_some]
    rw [cG_t (g6 1 (by decide)), uA_uI, rM_49 (A _), w1]
    simp only [Option.bind_some]
    rw [cG_t (g6 2 (by decide)), uA_uI, rM_49 (A _), cG_t (g6 3 (by decide)), uA_uI, rM_49 (A _), cG_t (g6 4 (by decide)), uA_uI, rM_49 (A _), cG_t (g6 5 (by decide)), uA_uI]
    generalize hg : upd (upd (upd (upd (upd (upd (τ.1 33) (Int32.toNatClampNeg 0) (nI (apN (tX D a) (tX D b) + apN (tY D a) (tY D b)))) (Int32.toNatClampNeg 1) (nI (won (tWn D) (tW D) d))) (Int32.toNatClampNeg 2) (nI (won (tFn D) (tF D) d))) (Int32.toNatClampNeg 3) (nI d)) (Int32.toNatClampNeg 4) (nI a)) (Int32.toNatClampNeg 5) (nI b) = g
    have hV : ∀ i, i < 6 → g i = vV D d a b i := by
      intro i hi
      subst hg
      unfold vV
      rw [show (0 : Int32).toNatClampNeg = 0 from rfl, show (1 : Int32).toNatClampNeg = 1 from rfl, show (2 : Int32).toNatClampNeg = 2 from rfl, show (3 : Int32).toNatClampNeg = 3 from rfl, show (4 : Int32).toNatClampNeg = 4 from rfl, show (5 : Int32).toNatClampNeg = 5 from rfl]
      rcases (show i = 0 ∨ i = 1 ∨ i = 2 ∨ i = 3 ∨ i = 4 ∨ i = 5 by omega) with q | q | q | q | q | q <;> subst q <;> rfl
    have h51 : (uI (uA τ 33 g) 0 51 0).1 0 51 = 0 := by rw [uI_I, if_pos ⟨rfl, rfl⟩]
    have krow : ∀ k, k ≠ 0 → k ≠ 33 → (uI (uA τ 33 g) 0 51 0).1 k = τ.1 k := fun k a b => by rw [uI_row _ _ a, k1 _ _ b]
    obtain ⟨τ', q1, q2⟩ := tellsM_go (tbs D) (tz D) (uI (uA τ 33 g) 0 51 0) k e fuel hP (mLaw_G (fun j p q => krow j (by omega) (by omega)) _ _ _ _ hm) (by rw [fuel_v]; omega) h51
    have e33 : (uI (uA τ 33 g) 0 51 0).1 33 = g := by
      rw [uI_row _ _ (by decide)]
      funext j
      exact uA_own _ _ _ _
    rw [e33, lawV_congr hV] at q1
    refine ⟨τ', q1, q2.1, fun j hj => ?_, fun k a b c => (q2.2.2 k a c).trans (krow k a b)⟩
    rw [q2.2.1 j hj, uI_ne _ _ (by omega), k1 _ _ (by decide)]
theorem isHeardM_eq {li a b d : Nat} {D : TxD} {τ : hSt} (hD : TXok D) (hT : TM li D τ) (ha : a < tH D) (hb : b < tH D) (hd : d < 2 ^ 30) :
    ∃ τ', F_X12_isHeardBy 0 (nI a) (nI b) (nI d) τ = some (if earD D d a b = true then 1 else 0, τ') ∧ frW τ τ' := by
  have d1 : tH D ≤ 6 := hD.1
  unfold F_X12_isHeardBy
  by_cases hab : a = b
  · rw [if_pos (by rw [hab])]
    refine ⟨τ, ?_, frW_rfl⟩
    rw [if_pos (by unfold earD; simp [hab])]
    rfl
  · rw [if_neg (fun z => hab ((nI_eq (by omega) (by omega)).mp z))]
    obtain ⟨τ', q1, q2⟩ := tellsM_eq hD hT ha hb hd
    rw [cC_t q1]
    refine ⟨τ', ?_, q2⟩
    by_cases h : lawD D d a b ≤ 0
    · rw [if_pos h, if_neg (by unfold earD; simp [hab, h])]; rfl
    · rw [if_neg h, if_pos (by unfold earD; simp [h])]; rfl
/-- in the midst of filling the ears -/
def mIn (li : Nat) (D : TxD) (d a b : Nat) (τ s : hSt) : Prop :=
  TM li D s ∧ s.2 = τ.2 ∧ (∀ j, j ≠ 51 → s.1 0 j = τ.1 0 j) ∧ (∀ k, k ≠ 0 → k ≠ 33 → k ≠ 34 → k ≠ 35 → s.1 k = τ.1 k) ∧ (∀ a' b', a' < a → b' < 32 → bt (s.1 35 a') b' = (decide (b' < tH D) && earD D d a' b')) ∧ ∀ b', b' < 32 → bt (s.1 35 a) b' = (decide (b' < b) && earD D d a b')
theorem fillsM_in {li a d : Nat} {D : TxD} {τ s : hSt} (hD : TXok D) (hd : d < 2 ^ 30) (ha : a < tH D) (hI : mIn li D d a 0 τ s) :
    ∃ s', F_X12_fillsHearers_24 0 (nI d) (nI a) 0 s = some (.inl (nI (a + 1), s')) ∧ mIn li D d a (tH D) τ s' := by
  have d1 : tH D ≤ 6 := hD.1
  have main : ∃ x, F_X12_fillsHearers_24 0 (nI d) (nI a) 0 s = some x ∧ ∃ s', x = .inl (nI (a + 1), s') ∧ mIn li D d a (tH D) τ s' := by
    unfold F_X12_fillsHearers_24
    refine lp_go (tH D) (by rw [fuel_v]; omega) (fun b u => u.1 = nI b ∧ mIn li D d a b τ u.2) _ ⟨rfl, hI⟩ (fun b u hb hu => ?_)
    obtain ⟨l3, s1⟩ := u
    obtain ⟨q1, q2⟩ := hu
    dsimp only at q1 q2
    subst q1
    obtain ⟨i1, i2, i3, i4, i5, i6⟩ := q2
    have hP : HM s1.2.2 := i1.1
    unfold S_X12_fillsHearers_24 F_X12_fillsHearers_24b
    dsimp only
    rw [rM_24 hP, i1.2.1.1, cG_t (inb_nI (by rw [kM_11]; exact i1.2.1.2) (by decide)), cl_nI (by have := i1.2.1.2; omega), i1.2.2.1.1]
    by_cases hlt : b < tH D
    · left
      rw [if_neg (nI_ge hlt (by omega))]
      obtain ⟨s2, w1, w2⟩ := isHeardM_eq hD i1 ha hlt hd
      rw [cC_t w1]
      have hT2 : TM li D s2 := TM_W i1 w2
      have e35 : s2.1 35 = s1.1 35 := w2.2.2 35 (by decide) (by decide) (by decide)
      have f2 : s2.2 = τ.2 := w2.1.trans i2
      have f3 : ∀ j, j ≠ 51 → s2.1 0 j = τ.1 0 j := fun j hj => (w2.2.1 j hj).trans (i3 j hj)
      have f4 : ∀ k, k ≠ 0 → k ≠ 33 → k ≠ 34 → k ≠ 35 → s2.1 k = τ.1 k := fun k x y z w => (w2.2.2 k x y z).trans (i4 k x y z w)
      by_cases he : earD D d a b = true
      · rw [if_pos he, if_neg (by decide), rM_52 hT2.1, cG_t (inb_nI (by rw [kM_35]; omega) (by decide)), cG_t (inb_nI (by rw [kM_35]; omega) (by decide)), cl_nI (by omega)]
        unfold F_X12_fillsHearers_59 cL
        refine ⟨_, hlt, rfl, nI_1 b, TM_fr hT2 rfl (uI_ne _ _ (by omega)) (fun k x y => uI_row _ _ (by omega)), f2, fun j hj => ?_, fun k x y z w => ?_, fun a' b' h1 h2 => ?_, fun b' h2 => ?_⟩
        · dsimp only
          rw [uI_ne _ _ (by omega)]
          exact f3 j hj
        · dsimp only
          rw [uI_row _ _ w]
          exact f4 k x y z w
        · dsimp only
          rw [uI_ne _ _ (by omega), e35]
          exact i5 a' b' h1 h2
        · dsimp only
          rw [uI_I, if_pos ⟨rfl, rfl⟩, bt_or, bt_pow (by omega) h2, e35, i6 b' h2]
          by_cases q : b' = b
          · subst q; simp [he]
          · have : decide (b' < b + 1) = decide (b' < b) := decide_eq_decide.mpr (by omega)
            simp [q, this]
      · rw [if_neg he, if_pos rfl]
        unfold F_X12_fillsHearers_59 cL
        have he : earD D d a b = false := by simpa using he
        refine ⟨_, hlt, rfl, nI_1 b, hT2, f2, f3, f4, fun a' b' h1 h2 => by dsimp only; rw [e35]; exact i5 a' b' h1 h2, fun b' h2 => ?_⟩
        dsimp only
        rw [e35, i6 b' h2]
        by_cases q : b' = b
        · subst q; simp [he]
        · have : decide (b' < b + 1) = decide (b' < b) := decide_eq_decide.mpr (by omega)
          simp [this]
    · right
      have : b = tH D := by omega
      subst this
      rw [if_pos (nI_le (Nat.le_refl _) (by omega))]
      unfold cL
      exact ⟨_, rfl, s1, by rw [nI_1], i1, i2, i3, i4, i5, i6⟩
  obtain ⟨x, h1, s', h2, h3⟩ := main
  exact ⟨s', by rw [h1, h2], h3⟩
theorem fillsM_eq {li d : Nat} {D : TxD} {τ : hSt} (hD : TXok D) (hT : TM li D τ) (hd : d < 2 ^ 30) :
    ∃ s, F_X12_fillsHearers 0 (nI d) τ = some s ∧ TM li D s ∧ s.2 = τ.2 ∧ (∀ j, j ≠ 51 → s.1 0 j = τ.1 0 j) ∧ (∀ k, k ≠ 0 → k ≠ 33 → k ≠ 34 → k ≠ 35 → s.1 k = τ.1 k) ∧ earE (earD D) d (tH D) (s.1 35) := by
  have d1 : tH D ≤ 6 := hD.1
  unfold F_X12_fillsHearers F_X12_fillsHearers_2
  refine lp_go (tH D) (by rw [fuel_v]; omega) (fun a u => u.1 = nI a ∧ TM li D u.2 ∧ u.2.2 = τ.2 ∧ (∀ j, j ≠ 51 → u.2.1 0 j = τ.1 0 j) ∧ (∀ k, k ≠ 0 → k ≠ 33 → k ≠ 34 → k ≠ 35 → u.2.1 k = τ.1 k) ∧ (∀ a' b', a' < a → b' < 32 → bt (u.2.1 35 a') b' = (decide (b' < tH D) && earD D d a' b'))) _ ⟨rfl, hT, rfl, fun _ _ => rfl, fun _ _ _ _ _ => rfl, fun a' b' h => absurd h (by omega)⟩ (fun a u hau hu => ?_)
  obtain ⟨l2, s1⟩ := u
  obtain ⟨q1, i1, i2, i3, i4, i5⟩ := hu
  dsimp only at q1 i1 i2 i3 i4 i5
  subst q1
  have hP : HM s1.2.2 := i1.1
  unfold S_X12_fillsHearers_2 F_X12_fillsHearers_2b
  dsimp only
  rw [rM_24 hP, i1.2.1.1, cG_t (inb_nI (by rw [kM_11]; exact i1.2.1.2) (by decide)), cl_nI (by have := i1.2.1.2; omega), i1.2.2.1.1]
  by_cases hlt : a < tH D
  · left
    rw [if_neg (nI_ge hlt (by omega)), rM_52 hP, cG_t (inb_nI (by rw [kM_35]; omega) (by decide))]
    unfold cL
    dsimp only
    rw [cl_nI (by omega)]
    have hI : mIn li D d a 0 τ (uI s1 35 a 0) := by
      refine ⟨TM_fr i1 rfl (uI_ne _ _ (by omega)) (fun k x y => uI_row _ _ (by omega)), i2, fun j hj => ?_, fun k x y z w => ?_, fun a' b' h1 h2 => ?_, fun b' h2 => ?_⟩
      · rw [uI_ne _ _ (by omega)]; exact i3 j hj
      · rw [uI_row _ _ w]; exact i4 k x y z w
      · rw [uI_ne _ _ (by omega)]; exact i5 a' b' h1 h2
      · rw [uI_I, if_pos ⟨rfl, rfl⟩, bt_0]; simp
    obtain ⟨s', w1, j1, j2, j3, j4, j5, j6⟩ := fillsM_in hD hd hlt hI
    rw [w1]
    refine ⟨_, hlt, rfl, rfl, j1, j2, j3, j4, fun a' b' h1 h2 => ?_⟩
    by_cases q : a' = a
    · subst q; exact j6 b' h2
    · exact j5 a' b' (by omega) h2
  · right
    have : a = tH D := by omega
    subst this
    rw [if_pos (nI_le (Nat.le_refl _) (by omega))]
    exact ⟨s1, rfl, i1, i2, i3, i4, fun h b hh hb => i5 h b hh hb⟩
/-- the model's text serves the worlds -/
theorem TQ_of {li : Nat} {D : TxD} (hD : TXok D) : TQ (TM li D) li (tH D) (tM D) (tS D) (tA D) (tB D) (tD D) (earD D) := by
  obtain ⟨d1, d2, d3, -, -, -, -, -, d9⟩ := id hD
  refine ⟨fun τ h => ⟨h.1, ⟨h.2.1.1, h.2.1.2, h.2.2.1.1, d1, h.2.2.1.2.1, d2⟩, h.2.2.1.2.2.2, d3, fun i hi => ?_⟩, fun τ f h => TM_fr h rfl (uA_oth' _ _ _ (by decide)) (fun k a b => uA_row _ _ (by omega)), fun τ d h hd => ?_⟩
  · obtain ⟨a1, a2, a3, a4⟩ := d9 i hi
    obtain ⟨b1, b2, b3⟩ := h.2.2.2.2.2.2.2.2.1 i hi
    exact ⟨b1, by omega, b2, by omega, b3, a3, by omega⟩
  · obtain ⟨s, w1, w2, w3, w4, w5, w6⟩ := fillsM_eq hD h hd
    exact ⟨s, w1, w2, by rw [w3], w5 37 (by decide) (by decide) (by decide) (by decide), w4, fun k x y z w => ⟨w5 k x y z w, by rw [w3]⟩, w6⟩
