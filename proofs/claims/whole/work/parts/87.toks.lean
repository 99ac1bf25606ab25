/-! ===== PURE 52: tokens, what they are ===== -/
def isBl (c : Nat) : Bool := decide (c = 9) || (decide (c = 10) || (decide (c = 13) || decide (c = 32)))
def isLt (c : Nat) : Bool := decide (97 ≤ c) && decide (c ≤ 122)
def isDg (c : Nat) : Bool := decide (48 ≤ c) && decide (c ≤ 57)
def isSg (c : Nat) : Bool := decide (c ∈ [59, 61, 43, 45, 42, 47, 60, 40, 41])
/-- where a run ends -/
def rnF (p : Nat → Bool) (n : Nat) (b : Nat → Nat) : Nat → Nat → Nat
  | 0, i => i
  | k + 1, i => if i < n ∧ p (b i) = true then rnF p n b k (i + 1) else i
def rn (p : Nat → Bool) (n : Nat) (b : Nat → Nat) (i : Nat) : Nat := rnF p n b (n - i) i
theorem rn_s {p : Nat → Bool} {n i : Nat} {b : Nat → Nat} (h : i < n) (hp : p (b i) = true) : rn p n b i = rn p n b (i + 1) := by
  unfold rn
  obtain ⟨k, e⟩ : ∃ k, n - i = k + 1 := ⟨n - i - 1, by omega⟩
  rw [e, show n - (i + 1) = k by omega]
  exact if_pos ⟨h, hp⟩
theorem rn_e {p : Nat → Bool} {n i : Nat} {b : Nat → Nat} (h : ¬ (i < n ∧ p (b i) = true)) : rn p n b i = i := by
  unfold rn
  cases q : n - i with
  | zero => rfl
  | succ k => exact if_neg h
theorem rnF_b {p : Nat → Bool} {n : Nat} {b : Nat → Nat} : ∀ k i, i ≤ n → i ≤ rnF p n b k i ∧ rnF p n b k i ≤ n ∧ ∀ j, i ≤ j → j < rnF p n b k i → p (b j) = true
  | 0, i, h => ⟨Nat.le_refl _, h, fun j a c => absurd c (by show ¬ j < i; omega)⟩
  | k + 1, i, h => by
    unfold rnF
    by_cases q : i < n ∧ p (b i) = true
    · rw [if_pos q]
      obtain ⟨h1, h2, h3⟩ := rnF_b (p := p) (b := b) k (i + 1) q.1
      refine ⟨by omega, h2, fun j a c => ?_⟩
      by_cases e : j = i
      · rw [e]; exact q.2
      · exact h3 j (by omega) c
    · rw [if_neg q]
      exact ⟨Nat.le_refl _, h, fun j a c => absurd c (by omega)⟩
theorem rn_b {p : Nat → Bool} {n i : Nat} {b : Nat → Nat} (h : i ≤ n) : i ≤ rn p n b i ∧ rn p n b i ≤ n ∧ ∀ j, i ≤ j → j < rn p n b i → p (b j) = true := rnF_b _ _ h
/-- letters to a number -/
def an (B : Nat) (f : Nat → Nat) : Nat → Nat
  | 0 => 0
  | k + 1 => an B f k * B + (f k - 96)
theorem an_inj {B : Nat} (hB : 27 ≤ B) {f f' : Nat → Nat} : ∀ k k', (∀ j, j < k → 97 ≤ f j ∧ f j ≤ 122) → (∀ j, j < k' → 97 ≤ f' j ∧ f' j ≤ 122) → an B f k = an B f' k' → k = k' ∧ ∀ j, j < k → f j = f' j
  | 0, 0, _, _, _ => ⟨rfl, fun j q => absurd q (by omega)⟩
  | 0, k' + 1, _, h', e => by
    have := h' k' (by omega)
    have e : 0 = an B f' k' * B + (f' k' - 96) := e
    omega
  | k + 1, 0, h, _, e => by
    have := h k (by omega)
    have e : an B f k * B + (f k - 96) = 0 := e
    omega
  | k + 1, k' + 1, h, h', e => by
    have a := h k (by omega)
    have a' := h' k' (by omega)
    have e : an B f k * B + (f k - 96) = an B f' k' * B + (f' k' - 96) := e
    have e1 : f k - 96 = f' k' - 96 := by
      have := congrArg (· % B) e
      simp only [Nat.mul_add_mod_self_right] at this
      rwa [Nat.mod_eq_of_lt (by omega), Nat.mod_eq_of_lt (by omega)] at this
    have e2 : an B f k = an B f' k' := by
      rw [e1] at e
      exact Nat.eq_of_mul_eq_mul_right (by omega : 0 < B) (by omega)
    obtain ⟨i1, i2⟩ := an_inj hB k k' (fun j q => h j (by omega)) (fun j q => h' j (by omega)) e2
    refine ⟨by omega, fun j q => ?_⟩
    by_cases r : j = k
    · subst r
      subst i1
      omega
    · exact i2 j (by omega)
theorem an_lt {B : Nat} (hB : 27 ≤ B) {f : Nat → Nat} : ∀ k, (∀ j, j < k → 97 ≤ f j ∧ f j ≤ 122) → an B f k < B ^ k
  | 0, _ => Nat.zero_lt_one
  | k + 1, h => by
    have ih := an_lt hB k (fun j q => h j (by omega))
    have := h k (by omega)
    show an B f k * B + (f k - 96) < B ^ (k + 1)
    rw [Nat.pow_succ]
    have : (an B f k + 1) * B ≤ B ^ k * B := Nat.mul_le_mul_right _ ih
    rw [Nat.add_mul] at this
    omega
theorem an_congr {B : Nat} {f f' : Nat → Nat} : ∀ k, (∀ j, j < k → f j = f' j) → an B f k = an B f' k
  | 0, _ => rfl
  | k + 1, h => by
    show an B f k * B + (f k - 96) = an B f' k * B + (f' k - 96)
    rw [an_congr k (fun j q => h j (by omega)), h k (by omega)]
def dn (f : Nat → Nat) : Nat → Nat
  | 0 => 0
  | k + 1 => dn f k * 10 + (f k - 48)
theorem dn_lt {f : Nat → Nat} : ∀ k, (∀ j, j < k → 48 ≤ f j ∧ f j ≤ 57) → dn f k < 10 ^ k
  | 0, _ => Nat.zero_lt_one
  | k + 1, h => by
    have ih := dn_lt k (fun j q => h j (by omega))
    have := h k (by omega)
    show dn f k * 10 + (f k - 48) < 10 ^ (k + 1)
    rw [Nat.pow_succ]
    omega
/-- a word's letters, filled up with blanks, and how many they are -/
def wN (w j : Nat) : Nat := (wordsAt (8 * w + j)).toNatClampNeg
def wLn (w : Nat) : Nat := [4, 4, 2, 5, 2, 4, 4, 5, 4, 5, 3, 5, 7, 3, 4, 3, 3, 4, 2].getD w 0
/-- the model's number of the class's word -/
def pmW (w : Nat) : Nat := [0, 1, 2, 3, 12, 13, 14, 6, 7, 8, 9, 10, 11, 15, 4, 5, 16, 17, 18].getD w 0
def kyW (w : Nat) : Int64 := kyV (pmW w)
theorem pmW_lt : ∀ w, w < 19 → pmW w < 19 := by decide
theorem pmW_ex : ∀ q, q < 19 → ∃ w, w < 19 ∧ pmW w = q := by decide
theorem wN_eq : ∀ w, w < 19 → ∀ j, j < 8 → wordsAt (8 * w + j) = nI (wN w j) ∧ (if j < wLn w then 97 ≤ wN w j ∧ wN w j ≤ 122 else wN w j = 32) := by decide +kernel
theorem wLn_lt : ∀ w, w < 19 → 0 < wLn w ∧ wLn w ≤ 7 := by decide +kernel
theorem kyW_eq : ∀ w, w < 19 → kyW w = Int64.ofNat (an 27 (wN w) (wLn w)) := by decide +kernel
theorem kyW_ne : ∀ w, w < 19 → ∀ w', w' < 19 → kyW w = kyW w' → w = w' := by decide +kernel
/-- the letters are the word's -/
def mch (f : Nat → Nat) (k w : Nat) : Prop := ∀ j, j < 8 → wN w j = if j < k then f j else 32
theorem of64 {a c : Nat} (ha : a < 2 ^ 63) (hc : c < 2 ^ 63) (h : Int64.ofNat a = Int64.ofNat c) : a = c := by
  have := congrArg (fun z : Int64 => z.toBitVec.toNat) h
  have e : ∀ a, (Int64.ofNat a).toBitVec.toNat = a % 2 ^ 64 := fun a => rfl
  simp only [e] at this
  omega
theorem mch_iff {f : Nat → Nat} {k w : Nat} (hw : w < 19) (hk : k ≤ 8) (hf : ∀ j, j < k → 97 ≤ f j ∧ f j ≤ 122) : mch f k w ↔ kyW w = Int64.ofNat (an 27 f k) := by
  obtain ⟨l1, l2⟩ := wLn_lt w hw
  have hl : ∀ j, j < wLn w → 97 ≤ wN w j ∧ wN w j ≤ 122 := fun j q => by
    have := (wN_eq w hw j (by omega)).2
    rwa [if_pos q] at this
  have hb : ∀ j, wLn w ≤ j → j < 8 → wN w j = 32 := fun j q r => by
    have := (wN_eq w hw j r).2
    rwa [if_neg (by omega)] at this
  have p8 : ∀ k f, k ≤ 8 → (∀ j, j < k → 97 ≤ f j ∧ f j ≤ 122) → an 27 f k < 2 ^ 63 := fun k f hk hf => Nat.lt_of_lt_of_le (an_lt (by decide) k hf) (Nat.le_trans (Nat.pow_le_pow_right (by decide) hk) (by decide))
  rw [kyW_eq w hw]
  constructor
  · intro h
    have e : k = wLn w := by
      rcases Nat.lt_trichotomy k (wLn w) with q | q | q
      · have := h k (by omega)
        rw [if_neg (by omega)] at this
        have := hl k q
        omega
      · exact q
      · have := h (wLn w) (by omega)
        rw [if_pos q, hb _ (Nat.le_refl _) (by omega)] at this
        have := hf _ q
        omega
    subst e
    refine congrArg Int64.ofNat (an_congr _ (fun j q => ?_))
    rw [h j (by omega), if_pos q]
  · intro h
    have h' := of64 (p8 _ _ (by omega) hl) (p8 _ _ hk hf) h
    obtain ⟨e1, e2⟩ := an_inj (by decide) _ _ hl hf h'
    intro j hj
    by_cases q : j < k
    · rw [if_pos q]
      exact e2 j (by omega)
    · rw [if_neg q]
      exact hb j (by omega) hj
theorem mch_uni {f : Nat → Nat} {k w w' : Nat} (hw : w < 19) (hw' : w' < 19) (h : mch f k w) (h' : mch f k w') : w = w' := by
  obtain ⟨l1, l2⟩ := wLn_lt w hw
  have e : ∀ w, w < 19 → ∀ w', w' < 19 → (∀ j, j < 8 → wN w j = wN w' j) → w = w' := by decide +kernel
  exact e w hw w' hw' (fun j hj => by rw [h j hj, h' j hj])
theorem mch_8 {f : Nat → Nat} {k w : Nat} (hw : w < 19) (h : mch f k w) (hf : ∀ j, j < k → 97 ≤ f j ∧ f j ≤ 122) : k ≤ 7 := by
  obtain ⟨l1, l2⟩ := wLn_lt w hw
  rcases Nat.lt_or_ge 7 k with q | q
  · have := h 7 (by decide)
    rw [if_pos q] at this
    have r := (wN_eq w hw 7 (by decide)).2
    rw [if_neg (by omega)] at r
    have := hf 7 q
    omega
  · exact q
/-- a kind of letters: the word's, or a name's -/
noncomputable def wK (f : Nat → Nat) (k : Nat) : Nat := @dite _ (∃ w, w < 19 ∧ mch f k w) (Classical.propDecidable _) (fun h => 128 + Classical.choose h) (fun _ => 2)
theorem wK_y {f : Nat → Nat} {k w : Nat} (hw : w < 19) (h : mch f k w) : wK f k = 128 + w := by
  have hx : ∃ w, w < 19 ∧ mch f k w := ⟨w, hw, h⟩
  have e : wK f k = 128 + Classical.choose hx := dif_pos hx
  rw [e, mch_uni (Classical.choose_spec hx).1 hw (Classical.choose_spec hx).2 h]
theorem wK_n {f : Nat → Nat} {k : Nat} (h : ¬ ∃ w, w < 19 ∧ mch f k w) : wK f k = 2 := dif_neg h
/-- the token that begins at a place: its kind, its value, the next place -/
noncomputable def tkK (n : Nat) (b : Nat → Nat) (p : Nat) : Nat :=
  if n ≤ p then 0 else if isLt (b p) then (if 8 < rn isLt n b p - p then 1 else wK (fun j => b (p + j)) (rn isLt n b p - p)) else if isDg (b p) then (if 4 < rn isDg n b p - p then 1 else 3) else if isSg (b p) then b p else 1
def tkV (n : Nat) (b : Nat → Nat) (p : Nat) : Int64 :=
  if n ≤ p then 0 else if isLt (b p) then Int64.ofNat (an 32 (fun j => b (p + j)) (rn isLt n b p - p)) else if isDg (b p) then Int64.ofNat (dn (fun j => b (p + j)) (rn isDg n b p - p)) else 0
def tkN (n : Nat) (b : Nat → Nat) (p : Nat) : Nat :=
  if n ≤ p then p else if isLt (b p) then rn isLt n b p else if isDg (b p) then rn isDg n b p else p + 1
/-- the places of the tokens -/
def tkP (n : Nat) (b : Nat → Nat) : Nat → Nat
  | 0 => rn isBl n b 0
  | j + 1 => rn isBl n b (tkN n b (tkP n b j))
theorem tkN_le {n : Nat} {b : Nat → Nat} {p : Nat} (h : p ≤ n) : p ≤ tkN n b p ∧ tkN n b p ≤ n := by
  unfold tkN
  split
  · exact ⟨Nat.le_refl _, h⟩
  · split
    · exact ⟨(rn_b h).1, (rn_b h).2.1⟩
    · split
      · exact ⟨(rn_b h).1, (rn_b h).2.1⟩
      · omega
theorem tkP_le {n : Nat} {b : Nat → Nat} : ∀ j, tkP n b j ≤ n
  | 0 => (rn_b (Nat.zero_le _)).2.1
  | j + 1 => (rn_b (tkN_le (tkP_le j)).2).2.1
/-- the model's kind of the class's -/
def mkK (K : Nat) : Nat :=
  if K = 0 then 0 else if K = 1 then 3 else if K = 2 then 1 else if K = 3 then 2 else if K = 59 then 4 else if K = 61 then 5 else if K = 40 then 6 else if K = 41 then 7 else if K = 43 then 8 else if K = 45 then 9 else if K = 42 then 10 else if K = 60 then 13 else if K = 47 then 15 else 20 + pmW (K - 128)
