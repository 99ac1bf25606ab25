/-! ===== PURE 30: a text's data; who hears whom on a day, in the class ===== -/
/-- a text: counts, rows of numbers, the law -/
abbrev TxD : Type := (Nat → Nat) × (Nat → Nat → Nat) × List (Ops × Ops × Ops) × Ops
def tH (D : TxD) : Nat := D.1 0
def tM (D : TxD) : Nat := D.1 1
def tS (D : TxD) : Nat := D.1 2
def tO (D : TxD) : Nat := D.1 3
def tWn (D : TxD) : Nat := D.1 4
def tFn (D : TxD) : Nat := D.1 5
def tX (D : TxD) : Nat → Nat := D.2.1 0
def tY (D : TxD) : Nat → Nat := D.2.1 1
def tHm (D : TxD) : Nat → Nat := D.2.1 2
def tA (D : TxD) : Nat → Nat := D.2.1 3
def tB (D : TxD) : Nat → Nat := D.2.1 4
def tD (D : TxD) : Nat → Nat := D.2.1 5
def tW (D : TxD) : Nat → Nat := D.2.1 6
def tF (D : TxD) : Nat → Nat := D.2.1 7
def tbs (D : TxD) : List (Ops × Ops × Ops) := D.2.2.1
def tz (D : TxD) : Ops := D.2.2.2
def TXok (D : TxD) : Prop := tH D ≤ 6 ∧ tM D ≤ 4 ∧ tS D ≤ 4 ∧ tO D < 4 ∧ tWn D ≤ 12 ∧ tFn D ≤ 12 ∧ (∀ i, i < tH D → tX D i < 100 ∧ tY D i < 100) ∧ (∀ m, m < tM D → tHm D m < tH D) ∧ (∀ i, i < tS D → tA D i < tH D ∧ tB D i < tM D ∧ 0 < tD D i ∧ tD D i < 10)
/-- how far two places of one coordinate are apart -/
def apN (x y : Nat) : Nat := if x ≤ y then y - x else x - y
/-- weather of a day -/
def won (n : Nat) (w : Nat → Nat) (d : Nat) : Nat := if n = 0 then 0 else w (d % n)
def vV (D : TxD) (d a b : Nat) : Nat → Int32 := fun i => if i = 0 then nI (apN (tX D a) (tX D b) + apN (tY D a) (tY D b)) else if i = 1 then nI (won (tWn D) (tW D) d) else if i = 2 then nI (won (tFn D) (tF D) d) else if i = 3 then nI d else if i = 4 then nI a else nI b
def lawD (D : TxD) (d a b : Nat) : Int32 := lawV (vV D d a b) (tbs D) (tz D)
def earD (D : TxD) (d a b : Nat) : Bool := decide (a = b) || decide (¬ lawD D d a b ≤ 0)
theorem lawV_congr {V V' : Nat → Int32} (h : ∀ i, i < 6 → V i = V' i) : ∀ (bs : List (Ops × Ops × Ops)) (z : Ops), lawV V bs z = lawV V' bs z
  | [], z => by unfold lawV; rw [opsS_congr h]
  | b :: bs, z => by
    unfold lawV
    rw [opsS_congr h, opsS_congr h, opsS_congr h, lawV_congr h bs z]
/-- the class's text, the ears of the days left out -/
def TC0 (t : Nat) (D : TxD) (σ : hSt) : Prop :=
  HC σ.2.2 ∧ (σ.1 t 0 = nI (tH D) ∧ σ.1 t 3 = nI (tM D) ∧ σ.1 t 8 = nI (tO D) ∧ σ.1 t 9 = nI (tS D)) ∧ (∀ i, i < tH D → σ.1 (t + 1) i = nI (tX D i) ∧ σ.1 (t + 2) i = nI (tY D i)) ∧ (∀ m, m < tM D → σ.1 (t + 3) m = nI (tHm D m)) ∧
  (∃ L, L ≤ 401 ∧ σ.1 (t + 4) 2 = nI L ∧ cLaw (σ.1 (t + 5)) L 0 (tbs D) (tz D)) ∧ (σ.1 (t + 7) 1 = nI (tWn D) ∧ ∀ i, i < tWn D → σ.1 (t + 8) i = nI (tW D i)) ∧ (σ.1 (t + 9) 1 = nI (tFn D) ∧ ∀ i, i < tFn D → σ.1 (t + 10) i = nI (tF D i)) ∧
  (∀ i, i < tS D → σ.1 (t + 11) i = nI (tA D i) ∧ σ.1 (t + 12) i = nI (tB D i) ∧ σ.1 (t + 13) i = nI (tD D i))
/-- the ears of a day, in 64 bits -/
def earJ (D : TxD) (d : Nat) (v : Int64) : Prop := ∀ h b, h < tH D → b < 6 → v.toBitVec.getLsbD (6 * h + b) = (decide (b < tH D) && earD D d h b)
def TC (t : Nat) (D : TxD) (σ : hSt) : Prop := TC0 t D σ ∧ ∀ j, j < 256 → σ.1 (t + 16) j = -1 ∨ ∃ d, d < 2 ^ 30 ∧ σ.1 (t + 16) j = nI d ∧ earJ D d (σ.2.1 (t + 15) j)
/-- what the law's value leaves in the class: all but its stack and variables -/
def frL (t : Nat) (σ σ' : hSt) : Prop := σ'.2.2 = σ.2.2 ∧ (∀ k, k ≠ t + 4 → k ≠ t + 6 → k ≠ t + 14 → σ'.1 k = σ.1 k) ∧ ∀ j, j ≠ 3 → σ'.1 (t + 4) j = σ.1 (t + 4) j
theorem frL_rfl {t : Nat} {σ : hSt} : frL t σ σ := ⟨rfl, fun _ _ _ _ => rfl, fun _ _ => rfl⟩
theorem frL_trans {t : Nat} {σ σ' σ'' : hSt} (h : frL t σ σ') (h' : frL t σ' σ'') : frL t σ σ'' := ⟨h'.1.trans h.1, fun k a b c => (h'.2.1 k a b c).trans (h.2.1 k a b c), fun j q => (h'.2.2 j q).trans (h.2.2 j q)⟩
theorem TC0_L {t : Nat} {D : TxD} {σ σ' : hSt} (h : TC0 t D σ) (f : frL t σ σ') : TC0 t D σ' := by
  obtain ⟨f1, f2, f3⟩ := f
  unfold TC0 at h ⊢
  rw [f1, f2 t (by omega) (by omega) (by omega), f2 (t + 1) (by omega) (by omega) (by omega), f2 (t + 2) (by omega) (by omega) (by omega), f2 (t + 3) (by omega) (by omega) (by omega), f3 2 (by decide), f2 (t + 5) (by omega) (by omega) (by omega), f2 (t + 7) (by omega) (by omega) (by omega), f2 (t + 8) (by omega) (by omega) (by omega), f2 (t + 9) (by omega) (by omega) (by omega), f2 (t + 10) (by omega) (by omega) (by omega), f2 (t + 11) (by omega) (by omega) (by omega), f2 (t + 12) (by omega) (by omega) (by omega), f2 (t + 13) (by omega) (by omega) (by omega)]
  exact h
theorem TC0_same {t : Nat} {D : TxD} {σ σ' : hSt} (h : TC0 t D σ) (h2 : σ'.2.2 = σ.2.2) (e : ∀ k, t ≤ k → k < t + 17 → σ'.1 k = σ.1 k) : TC0 t D σ' := by
  unfold TC0 at h ⊢
  rw [h2, e t (by omega) (by omega), e (t + 1) (by omega) (by omega), e (t + 2) (by omega) (by omega), e (t + 3) (by omega) (by omega), e (t + 4) (by omega) (by omega), e (t + 5) (by omega) (by omega), e (t + 7) (by omega) (by omega), e (t + 8) (by omega) (by omega), e (t + 9) (by omega) (by omega), e (t + 10) (by omega) (by omega), e (t + 11) (by omega) (by omega), e (t + 12) (by omega) (by omega), e (t + 13) (by omega) (by omega)]
  exact h
theorem on_eq {r n d : Nat} {w : Nat → Nat} {σ : hSt} (hP : HC σ.2.2) (hr : okr kC NC 5 r = true) (hn : n ≤ 12) (e : σ.1 r 1 = nI n) (hw : ∀ i, i < n → σ.1 (r + 1) i = nI (w i)) (hd : d < 2 ^ 30) : F_X5_on r (nI d) σ = some (nI (won n w d)) := by
  have f0 : F_X5_on_34 σ = some 0 := rfl
  unfold F_X5_on won
  rw [e]
  by_cases h0 : n = 0
  · subst h0
    rw [if_pos (show nI 0 ≤ (0 : Int32) by decide), if_pos rfl]
    rfl
  · rw [if_neg (nI_nle (by omega) (by omega)), if_neg (show ¬ (12 : Int32) < nI n from nI_nlt (a := 12) hn (by decide)), if_neg (nI_pos (by omega)), rC_5_0 hP hr, cG_t (by simpa using nI_ne0 (by omega) (by omega)), pk_rem (by omega) (by omega) (by omega), cG_t (inb_nI (by rw [nC_5_0 hr]; have := Nat.mod_lt d (show n > 0 by omega); omega) (by rw [nC_5_0 hr]; decide)), cl_nI (by have := Nat.mod_lt d (show n > 0 by omega); omega), hw _ (Nat.mod_lt d (by omega)), if_neg h0]
    rfl
theorem abs_ap : ∀ x, x < 100 → ∀ y, y < 100 → (if (0 : Int32) ≤ nI x - nI y then nI x - nI y else 0 - (nI x - nI y)) = nI (apN x y) ∧ (if nI y ≤ nI x then nI x - nI y else nI y - nI x) = nI (apN x y) := by decide +kernel
theorem lawTells_eq {t a b d : Nat} {D : TxD} {σ : hSt} (hD : TXok D) (ht : okr kC NC 7 t = true) (hT : TC0 t D σ) (ha : a < tH D) (hb : b < tH D) (hd : d < 2 ^ 30) :
    ∃ σ', F_X7_lawTells t (nI a) (nI b) (nI d) σ = some (if lawD D d a b ≤ 0 then 0 else 1, σ') ∧ frL t σ σ' ∧ σ'.2 = σ.2 := by
  obtain ⟨hP, -, hxy, -, ⟨L, hL4, hL, hlaw⟩, ⟨hw1, hw2⟩, ⟨hf1, hf2⟩, -⟩ := hT
  obtain ⟨d1, -, -, -, d5, d6, d7, -⟩ := hD
  obtain ⟨x1, y1⟩ := hxy a ha
  obtain ⟨x2, y2⟩ := hxy b hb
  have A : ∀ f, HC (uA σ (t + 14) f).2.2 := fun _ => hP
  have k1 : ∀ f k, k ≠ t + 14 → (uA σ (t + 14) f).1 k = σ.1 k := fun f k h => uA_row _ _ h
  have g6 : ∀ x : Int32, inb x 6 = true → inb x (kC (t + 14)).2 = true := fun x h => by rw [nC_7_13 ht]; exact h
  unfold F_X7_lawTells cL
  dsimp only
  rw [rC_7_13 hP ht, rC_7_1 hP ht, cG_t (inb_nI (by rw [nC_7_1 ht]; omega) (by rw [nC_7_1 ht]; decide)), rC_7_1 hP ht, cG_t (inb_nI (by rw [nC_7_1 ht]; omega) (by rw [nC_7_1 ht]; decide)), rC_7_2 hP ht, cG_t (inb_nI (by rw [nC_7_2 ht]; omega) (by rw [nC_7_2 ht]; decide)), rC_7_2 hP ht, cG_t (inb_nI (by rw [nC_7_2 ht]; omega) (by rw [nC_7_2 ht]; decide)), cG_t (g6 0 (by decide)), cl_nI (by omega), cl_nI (by omega), x1, x2, y1, y2, (abs_ap _ (d7 a ha).1 _ (d7 b hb).1).1, (abs_ap _ (d7 a ha).2 _ (d7 b hb).2).1, nI_add, uI_as]
  rw [rC_7_13 (A _) ht, rC_7_6 (A _) ht, on_eq (A _) (oC_7_6 ht) d5 (by rw [k1 _ _ (by omega)]; exact hw1) (fun i hi => by rw [k1 _ _ (by omega)]; exact hw2 i hi) hd]
  simp only [Option.bind_some]
  rw [cG_t (g6 1 (by decide)), uA_uI, rC_7_13 (A _) ht, rC_7_7 (A _) ht, on_eq (A _) (oC_7_7 ht) d6 (by rw [k1 _ _ (by omega)]; exact hf1) (fun i hi => by rw [k1 _ _ (by omega)]; exact hf2 i hi) hd]
  simp only [Option.bind_some]
  rw [cG_t (g6 2 (by decide)), uA_uI, rC_7_13 (A _) ht, cG_t (g6 3 (by decide)), uA_uI, rC_7_13 (A _) ht, cG_t (g6 4 (by decide)), uA_uI, rC_7_13 (A _) ht, cG_t (g6 5 (by decide)), uA_uI, rC_7_5 (A _) ht, rC_7_13 (A _) ht]
  generalize hg : upd (upd (upd (upd (upd (upd (σ.1 (t + 14)) (Int32.toNatClampNeg 0) (nI (apN (tX D a) (tX D b) + apN (tY D a) (tY D b)))) (Int32.toNatClampNeg 1) (nI (won (tWn D) (tW D) d))) (Int32.toNatClampNeg 2) (nI (won (tFn D) (tF D) d))) (Int32.toNatClampNeg 3) (nI d)) (Int32.toNatClampNeg 4) (nI a)) (Int32.toNatClampNeg 5) (nI b) = g
  have hV : ∀ i, i < 6 → g i = vV D d a b i := by
    intro i hi
    subst hg
    unfold vV
    rw [show (0 : Int32).toNatClampNeg = 0 from rfl, show (1 : Int32).toNatClampNeg = 1 from rfl, show (2 : Int32).toNatClampNeg = 2 from rfl, show (3 : Int32).toNatClampNeg = 3 from rfl, show (4 : Int32).toNatClampNeg = 4 from rfl, show (5 : Int32).toNatClampNeg = 5 from rfl]
    rcases (show i = 0 ∨ i = 1 ∨ i = 2 ∨ i = 3 ∨ i = 4 ∨ i = 5 by omega) with q | q | q | q | q | q <;> subst q <;> rfl
  have hcL : cLaw ((uA σ (t + 14) g).1 (t + 4 + 1)) L 0 (tbs D) (tz D) := by rw [k1 _ _ (by omega)]; exact hlaw
  obtain ⟨f', k', q⟩ := valC_eq (σ := uA σ (t + 14) g) (c := t + 4) (v := t + 14) (A g) (oC_7_5 ht) (by rw [k1 _ _ (by omega)]; exact hL) hL4 (nC_7_13 ht) ⟨by omega, by omega⟩ hcL
  rw [show (uA σ (t + 14) g).1 (t + 14) = g from funext fun j => uA_own _ _ _ _, lawV_congr hV] at q
  rw [cC_t q]
  refine ⟨stC (uA σ (t + 14) g) (t + 4) f' k', ?_, ⟨rfl, fun k a b c => ?_, fun j hj => ?_⟩, rfl⟩
  · unfold lawD
    by_cases h : lawV (vV D d a b) (tbs D) (tz D) ≤ 0
    · rw [if_pos h, if_pos h]; rfl
    · rw [if_neg h, if_neg h]; rfl
  · funext j
    rw [stC_o b (fun q => a q.1), k1 _ _ c]
  · rw [stC_o (by omega) (fun q => hj q.2), k1 _ _ (by omega)]
