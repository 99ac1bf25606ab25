/-! ===== PURE 25: the ops of a term: kind 0 number, 1 variable, 2 + 3 - 4 * 5 / ===== -/
def opS (V : Nat → Int32) : Nat × Int32 → List Int32 → Option (List Int32)
  | (0, n), st => some (n :: st)
  | (1, n), st => some (V n.toNatClampNeg :: st)
  | (2, _), b :: a :: st => some ((a + b) :: st)
  | (3, _), b :: a :: st => some ((a - b) :: st)
  | (4, _), b :: a :: st => some ((a * b) :: st)
  | (5, _), b :: a :: st => if b = 0 then none else some ((a / b) :: st)
  | _, st => some st
def opsS (V : Nat → Int32) : List (Nat × Int32) → List Int32 → Option (List Int32)
  | [], st => some st
  | o :: os, st => (opS V o st).bind (opsS V os)
/-- ops that never pop too much nor pile up beyond 32, from a stack of k to one of n -/
def opsOk : List (Nat × Int32) → Nat → Nat → Prop
  | [], k, n => k = n
  | o :: os, k, n => if o.1 < 2 then k < 32 ∧ opsOk os (k + 1) n else o.1 < 6 ∧ 2 ≤ k ∧ opsOk os (k - 1) n
theorem opsS_append (V : Nat → Int32) : ∀ (os ps : List (Nat × Int32)) (st : List Int32), opsS V (os ++ ps) st = (opsS V os st).bind (opsS V ps)
  | [], _, _ => rfl
  | o :: os, ps, st => by
    show (opS V o st).bind (opsS V (os ++ ps)) = ((opS V o st).bind (opsS V os)).bind (opsS V ps)
    cases opS V o st with
    | none => rfl
    | some st' => exact opsS_append V os ps st'
