/-! ===== PURE 25: the ops of a term: kind 0 number, 1 variable, 2 + 3 - 4 * 5 / ===== -/
def opS (V : Nat → Int32) : Nat × Int32 → List Int32 → Option (List Int32)
  | (0, n), st => some (n :: st)
  | (1, n), st => some (V (n.toNatClampNeg % 6) :: st)
  | (2, _), b :: a :: st => some ((a + b) :: st)
  | (3, _), b :: a :: st => some ((a - b) :: st)
  | (4, _), b :: a :: st => some ((a * b) :: st)
  | (5, _), b :: a :: st => if b = 0 then none else some ((a / b) :: st)
  | _, st => some st
def opsS (V : Nat → Int32) : List (Nat × Int32) → List Int32 → Option (List Int32)
  | [], st => some st
  | o :: os, st => (opS V o st).bind (opsS V os)
/-- ops that never pop too much nor pile up beyond D, from a stack of k to one of n -/
def opsOk (D : Nat) : List (Nat × Int32) → Nat → Nat → Prop
  | [], k, n => k = n
  | o :: os, k, n => if o.1 < 2 then k < D ∧ opsOk D os (k + 1) n else o.1 < 6 ∧ 2 ≤ k ∧ opsOk D os (k - 1) n
theorem opsS_append (V : Nat → Int32) : ∀ (os ps : List (Nat × Int32)) (st : List Int32), opsS V (os ++ ps) st = (opsS V os st).bind (opsS V ps)
  | [], _, _ => rfl
  | o :: os, ps, st => by
    show (opS V o st).bind (opsS V (os ++ ps)) = ((opS V o st).bind (opsS V os)).bind (opsS V ps)
    cases opS V o st with
    | none => rfl
    | some st' => exact opsS_append V os ps st'
theorem opsOk_sh {D D' b : Nat} (h : D + b ≤ D') : ∀ (os : List (Nat × Int32)) (k n : Nat), opsOk D os k n → opsOk D' os (k + b) (n + b)
  | [], k, n, q => by
    have q : k = n := q
    subst q
    rfl
  | o :: os, k, n, q => by
    unfold opsOk at q ⊢
    by_cases h2 : o.1 < 2
    · rw [if_pos h2] at q ⊢
      refine ⟨by omega, ?_⟩
      have := opsOk_sh h os (k + 1) n q.2
      rwa [show k + 1 + b = k + b + 1 by omega] at this
    · rw [if_neg h2] at q ⊢
      refine ⟨q.1, by omega, ?_⟩
      have := opsOk_sh h os (k - 1) n q.2.2
      rwa [show k - 1 + b = k + b - 1 by omega] at this
theorem opsOk_mono {D D' : Nat} (h : D ≤ D') (os : List (Nat × Int32)) (k n : Nat) (q : opsOk D os k n) : opsOk D' os k n := opsOk_sh (b := 0) h os k n q
theorem opsOk_append {D : Nat} : ∀ (os ps : List (Nat × Int32)) (k m n : Nat), opsOk D os k m → opsOk D ps m n → opsOk D (os ++ ps) k n
  | [], ps, k, m, n, q, r => by
    have q : k = m := q
    subst q
    exact r
  | o :: os, ps, k, m, n, q, r => by
    show opsOk D (o :: (os ++ ps)) k n
    unfold opsOk at q ⊢
    by_cases h2 : o.1 < 2
    · rw [if_pos h2] at q ⊢
      exact ⟨q.1, opsOk_append os ps _ m n q.2 r⟩
    · rw [if_neg h2] at q ⊢
      exact ⟨q.1, q.2.1, opsOk_append os ps _ m n q.2.2 r⟩
theorem opsS_congr {V V' : Nat → Int32} (h : ∀ i, i < 6 → V i = V' i) : ∀ (os : List (Nat × Int32)) (st : List Int32), opsS V os st = opsS V' os st
  | [], _ => rfl
  | (kd, x) :: os, st => by
    have e : opS V (kd, x) st = opS V' (kd, x) st := by
      match kd, st with
      | 0, _ => rfl
      | 1, st => exact congrArg (fun z => some (z :: st)) (h _ (Nat.mod_lt _ (by decide)))
      | 2, [] => rfl
      | 2, [_] => rfl
      | 2, _ :: _ :: _ => rfl
      | 3, [] => rfl
      | 3, [_] => rfl
      | 3, _ :: _ :: _ => rfl
      | 4, [] => rfl
      | 4, [_] => rfl
      | 4, _ :: _ :: _ => rfl
      | 5, [] => rfl
      | 5, [_] => rfl
      | 5, _ :: _ :: _ => rfl
      | (n + 6), _ => rfl
    show (opS V (kd, x) st).bind (opsS V os) = (opS V' (kd, x) st).bind (opsS V' os)
    rw [e, show opsS V os = opsS V' os from funext (opsS_congr h os)]
