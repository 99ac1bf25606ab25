/-! ===== PURE 1: loops, bits ===== -/
theorem lp_run {V X : Type} {s : V → Option (V ⊕ X)} {N : Nat} (inv : Nat → V → Prop) (post : X → Prop)
    (hs : ∀ i v, i ≤ N → inv i v → (∃ v', i < N ∧ s v = some (.inl v') ∧ inv (i + 1) v') ∨ (∃ x, s v = some (.inr x) ∧ post x)) :
    ∀ (k i : Nat) (v : V), i ≤ N → N + 1 ≤ i + k → inv i v → ∃ x, lp s k v = some x ∧ post x
  | 0, i, v, hi, hk, _ => absurd hk (by omega)
  | k + 1, i, v, hi, hk, h => by
    rcases hs i v hi h with ⟨v', h1, h2, h3⟩ | ⟨x, h2, h3⟩
    · rw [lp_inl h2]
      exact lp_run inv post hs k (i + 1) v' h1 (by omega) h3
    · exact ⟨x, lp_inr h2, h3⟩
/-- a loop from 0 to N at most -/
theorem lp_go {V X : Type} {s : V → Option (V ⊕ X)} (N : Nat) (hN : N < fuel) (inv : Nat → V → Prop) (post : X → Prop) {v : V} (h0 : inv 0 v)
    (hs : ∀ i v, i ≤ N → inv i v → (∃ v', i < N ∧ s v = some (.inl v') ∧ inv (i + 1) v') ∨ (∃ x, s v = some (.inr x) ∧ post x)) : ∃ x, lp s fuel v = some x ∧ post x :=
  lp_run inv post hs fuel 0 v (Nat.zero_le _) (by omega) h0
/-- the same where the answer is a value -/
theorem lp_eq {V X : Type} {s : V → Option (V ⊕ X)} (N : Nat) (hN : N < fuel) (inv : Nat → V → Prop) {x : X} {v : V} (h0 : inv 0 v)
    (hs : ∀ i v, i ≤ N → inv i v → (∃ v', i < N ∧ s v = some (.inl v') ∧ inv (i + 1) v') ∨ s v = some (.inr x)) : lp s fuel v = some x := by
  obtain ⟨y, h1, h2⟩ := lp_go N hN inv (fun y => y = x) h0 (fun i v hi h => by
    rcases hs i v hi h with h | h
    · exact Or.inl h
    · exact Or.inr ⟨x, h, rfl⟩)
  rw [h1, h2]
theorem fuel_v : fuel = 1000000 := rfl
/-- a bit of an int -/
def bt (x : Int32) (i : Nat) : Bool := x.toBitVec.getLsbD i
theorem bt_or (x y : Int32) (i : Nat) : bt (x ||| y) i = (bt x i || bt y i) := by simp [bt]
theorem bt_and (x y : Int32) (i : Nat) : bt (x &&& y) i = (bt x i && bt y i) := by simp [bt]
theorem bt_xor (x y : Int32) (i : Nat) : bt (x ^^^ y) i = (bt x i ^^ bt y i) := by simp [bt]
theorem bt_ext {x y : Int32} (h : ∀ i, i < 32 → bt x i = bt y i) : x = y := by
  apply Int32.toBitVec_inj.mp
  apply BitVec.eq_of_getLsbD_eq
  intro i hi
  exact h i hi
theorem bt_m1 {i : Nat} (h : i < 32) : bt (-1) i = true := by
  have : ∀ j, j < 32 → bt (-1) j = true := by decide +kernel
  exact this i h
theorem bt_0 (i : Nat) : bt 0 i = false := by simp [bt]
theorem sh_k : ∀ k, k < 32 → ((nI k &&& 31 : Int32).toBitVec.smod 32).toNat = k := by decide +kernel
theorem bt_shl {x : Int32} {k i : Nat} (hk : k < 32) (hi : i < 32) : bt (x <<< (nI k &&& 31)) i = (decide (k ≤ i) && bt x (i - k)) := by
  unfold bt
  rw [Int32.toBitVec_shiftLeft]
  rw [BitVec.shiftLeft_eq', BitVec.getLsbD_shiftLeft, sh_k k hk]
  by_cases h : k ≤ i <;> simp [h, hi] <;> omega
theorem bt_shr {x : Int32} {k i : Nat} (hk : k < 32) (hi : i + k < 32) : bt (x >>> (nI k &&& 31)) i = bt x (k + i) := by
  unfold bt
  rw [Int32.toBitVec_shiftRight]
  rw [BitVec.sshiftRight_eq', sh_k k hk, BitVec.getLsbD_sshiftRight]
  have h1 : ¬ 32 ≤ i := by omega
  have h2 : k + i < 32 := by omega
  rw [if_pos h2, decide_eq_false h1]
  rfl
theorem bt_1 (i : Nat) : bt 1 i = decide (i = 0) := by
  by_cases h : i < 32
  · have : ∀ j, j < 32 → bt 1 j = decide (j = 0) := by decide +kernel
    exact this i h
  · have : bt 1 i = false := by unfold bt; exact BitVec.getLsbD_of_ge _ _ (by omega)
    rw [this]
    simp
    omega
theorem bt_pow {k i : Nat} (hk : k < 32) (hi : i < 32) : bt (1 <<< (nI k &&& 31)) i = decide (i = k) := by
  rw [bt_shl hk hi, bt_1]
  by_cases h : k ≤ i <;> simp [h] <;> omega
/-- a bit as it is asked for in the code -/
theorem bt_ask {x : Int32} {k : Nat} (hk : k < 32) : (x >>> (nI k &&& 31)) &&& 1 = if bt x k then 1 else 0 := by
  apply bt_ext
  intro i hi
  rw [bt_and, bt_1]
  by_cases h : i = 0
  · subst h
    rw [bt_shr hk (by omega)]
    cases hb : bt x k <;> simp [hb, bt_0, bt_1]
  · simp only [h, decide_false, Bool.and_false]
    cases hb : bt x k <;> simp [bt_0, bt_1, h]
theorem bt_is0 {x : Int32} {k : Nat} (hk : k < 32) : ((x >>> (nI k &&& 31)) &&& 1 = 0) ↔ bt x k = false := by
  rw [bt_ask hk]
  cases bt x k <;> simp
