/-! ===== BASE 1: the words of the pure side: guards, lets, references, loops ===== -/
def inb (i : Int32) (n : Nat) : Bool := !(decide (i < 0) || decide (n ≤ i.toNatClampNeg))
theorem inb_in {i : Int32} {n : Nat} (h : inb i n = true) : vp_in i n := by
  unfold inb at h
  intro q
  rcases q with q | q <;> simp [q] at h
theorem inb_of {i : Int32} {n : Nat} (h : vp_in i n) : inb i n = true := by
  unfold inb
  by_cases h1 : i < 0
  · exact absurd (Or.inl h1) h
  · by_cases h2 : n ≤ i.toNatClampNeg
    · exact absurd (Or.inr h2) h
    · simp [h1, h2]
theorem inb_nI {c N : Nat} (h : c < N) (hN : N < 2 ^ 31) : inb (nI c) N = true := inb_of (vp_in_nI h hN)
def cG {α : Type} (b : Bool) (k : Option α) : Option α := if b then k else none
def cL {α β : Type} (x : β) (k : β → Option α) : Option α := k x
def cR {α : Type} (r : Option Nat) (ok : Nat → Bool) (k : Nat → Option α) : Option α := match r with
  | none => none
  | some a => if ok a then k a else none
theorem cG_some {α : Type} {b : Bool} {k : Option α} {r : α} (h : cG b k = some r) : b = true ∧ k = some r := by
  unfold cG at h
  cases b with
  | true => exact ⟨rfl, h⟩
  | false => cases h
theorem cL_some {α β : Type} {x : β} {k : β → Option α} {r : α} (h : cL x k = some r) : ∃ y, y = x ∧ k y = some r := ⟨x, rfl, h⟩
theorem cR_some {α : Type} {r0 : Option Nat} {ok : Nat → Bool} {k : Nat → Option α} {r : α} (h : cR r0 ok k = some r) : ∃ a, r0 = some a ∧ ok a = true ∧ k a = some r := by
  unfold cR at h
  cases r0 with
  | none => cases h
  | some a =>
    cases ho : ok a with
    | true => exact ⟨a, rfl, ho, by simpa [ho] using h⟩
    | false => simp [ho] at h
theorem cB_some {α β : Type} {x : Option β} {k : β → Option α} {r : α} (h : x.bind k = some r) : ∃ y, x = some y ∧ k y = some r := by
  cases x with
  | none => cases h
  | some y => exact ⟨y, rfl, h⟩
theorem cG_t {α : Type} {b : Bool} {k : Option α} (h : b = true) : cG b k = k := by simp [cG, h]
theorem cR_t {α : Type} {r : Option Nat} {ok : Nat → Bool} {k : Nat → Option α} {a : Nat} (h : r = some a) (ho : ok a = true) : cR r ok k = k a := by simp [cR, h, ho]
/-- a loop: 'inl' goes round again, 'inr' leaves -/
def lp {V X : Type} (s : V → Option (V ⊕ X)) : Nat → V → Option X
  | 0, _ => none
  | n + 1, v => match s v with
    | none => none
    | some (.inl v') => lp s n v'
    | some (.inr x) => some x
theorem lp_some {V X : Type} {s : V → Option (V ⊕ X)} {n : Nat} {v : V} {x : X} (h : lp s (n + 1) v = some x) : ∃ o, s v = some o ∧ (∀ v', o = .inl v' → lp s n v' = some x) ∧ (∀ x', o = .inr x' → x' = x) := by
  unfold lp at h
  cases hs : s v with
  | none => rw [hs] at h; cases h
  | some o =>
    rw [hs] at h
    refine ⟨o, rfl, fun v' e => ?_, fun x' e => ?_⟩
    · subst e; exact h
    · subst e; exact Option.some.inj h
theorem lp_inl {V X : Type} {s : V → Option (V ⊕ X)} {n : Nat} {v v' : V} (h : s v = some (.inl v')) : lp s (n + 1) v = lp s n v' := by simp [lp, h]
theorem lp_inr {V X : Type} {s : V → Option (V ⊕ X)} {n : Nat} {v : V} {x : X} (h : s v = some (.inr x)) : lp s (n + 1) v = some x := by simp [lp, h]
theorem lp_mono {V X : Type} {s : V → Option (V ⊕ X)} : ∀ (n : Nat) {m : Nat} {v : V} {x : X}, n ≤ m → lp s n v = some x → lp s m v = some x
  | 0, _, _, _, _, h => by cases h
  | n + 1, 0, _, _, hm, _ => absurd hm (by omega)
  | n + 1, m + 1, v, x, hm, h => by
    obtain ⟨o, h1, h2, h3⟩ := lp_some h
    cases o with
    | inl v' => rw [lp_inl h1]; exact lp_mono n (by omega) (h2 v' rfl)
    | inr x' => rw [lp_inr h1, h3 x' rfl]
/-- the rounds that a loop may go -/
def fuel : Nat := 1000000
theorem map_some_inv {α β : Type} {f : α → β} {x : Option α} {r : β} (h : x.map f = some r) : ∃ y, x = some y ∧ f y = r := by
  cases x with
  | none => cases h
  | some y => exact ⟨y, rfl, Option.some.inj h⟩
/-! ===== BASE 2: the state of a system: ints, longs and references by cell and place ===== -/
abbrev hSt : Type := (Nat → Nat → Int32) × (Nat → Nat → Int64) × (Nat → Nat → Option Nat)
def up2 {α : Type} (f : Nat → Nat → α) (c k : Nat) (v : α) : Nat → Nat → α := fun c' k' => if c' = c ∧ k' = k then v else f c' k'
def uI (s : hSt) (c k : Nat) (v : Int32) : hSt := (up2 s.1 c k v, s.2.1, s.2.2)
def uJ (s : hSt) (c k : Nat) (v : Int64) : hSt := (s.1, up2 s.2.1 c k v, s.2.2)
def uP (s : hSt) (c k : Nat) (v : Option Nat) : hSt := (s.1, s.2.1, up2 s.2.2 c k v)
/-- a whole row of ints anew -/
def uA (s : hSt) (c : Nat) (f : Nat → Int32) : hSt := ((fun c' => if c' = c then f else s.1 c'), s.2.1, s.2.2)
def okr (K : Nat → Nat × Nat) (n t a : Nat) : Bool := decide (a < n) && ((K a).1 == t)
theorem okr_in {K : Nat → Nat × Nat} {n t a : Nat} (h : okr K n t a = true) : a < n ∧ (K a).1 = t := by
  simpa [okr] using h
/-- fields of the classes: how many, and their types -/
def nfl (ci : Nat) : Nat := [4, 4, 3, 4, 9, 2, 2, 16, 3, 4, 12, 13, 69].getD ci 0
def fty (ci : Nat) : Nat → FieldType := [tyX0, tyX1, tyX2, tyX3, tyX4, tyX5, tyX6, tyX7, tyX8, tyX9, tyX10, tyX11, tyX12].getD ci (fun _ => .int)
def fvl (ad : Nat → Nat) (σ : hSt) (c k : Nat) (ty : FieldType) : Value := match ty with
  | .int => .int (σ.1 c k)
  | .boolean => .int (σ.1 c k)
  | _ => va_rf ((σ.2.2 c k).map ad)
def ofl (ad : Nat → Nat) (σ : hSt) (c ci : Nat) : List Value := (List.range (nfl ci)).map (fun k => fvl ad σ c k (fty ci k))
def clE (ay : Nat → ClassId) (K : Nat → Nat × Nat) (ad : Nat → Nat) (σ : hSt) (c : Nat) : va_E :=
  if (K c).1 < 100 then .inr ((K c).1, ofl ad σ c (K c).1)
  else .inl (ay (K c).1, (K c).2, if (K c).1 = 103 then .inr (.inl (σ.2.1 c)) else if (K c).1 = 105 then .inr (.inr (.inr (.inr (fun i => (σ.2.2 c i).map ad)))) else .inl (σ.1 c))
def wld (ay : Nat → ClassId) (K : Nat → Nat × Nat) (n : Nat) (ad : Nat → Nat) (σ : hSt) : va_W := (List.range n).map (fun c => (ad c, clE ay K ad σ c))
def tyL (ay : Nat → ClassId) : List (ClassId × FieldType) := [(ay 100, .byte), (ay 101, .int), (ay 102, .boolean), (ay 103, .long), (ay 105, .object "HillDrums$World")]
theorem wld_get {ay : Nat → ClassId} {K : Nat → Nat × Nat} {n : Nat} {ad : Nat → Nat} {σ : hSt} {c : Nat} (h : c < n) : (wld ay K n ad σ)[c]? = some (ad c, clE ay K ad σ c) := by
  simp [wld, h]
theorem ofl_get {ad : Nat → Nat} {σ : hSt} {c ci k : Nat} (h : k < nfl ci) : (ofl ad σ c ci)[k]? = some (fvl ad σ c k (fty ci k)) := by
  simp [ofl, h]
theorem clE_obj {ay : Nat → ClassId} {K : Nat → Nat × Nat} {ad : Nat → Nat} {σ : hSt} {c ci : Nat} (h : (K c).1 = ci) (hc : ci < 100) : clE ay K ad σ c = .inr (ci, ofl ad σ c ci) := by
  subst h
  simp [clE, hc]
theorem clE_int {ay : Nat → ClassId} {K : Nat → Nat × Nat} {ad : Nat → Nat} {σ : hSt} {c t : Nat} (h : (K c).1 = t) (h1 : ¬ t < 100) (h3 : t ≠ 103) (h5 : t ≠ 105) : clE ay K ad σ c = .inl (ay t, (K c).2, .inl (σ.1 c)) := by
  subst h
  simp [clE, h1, h3, h5]
theorem clE_long {ay : Nat → ClassId} {K : Nat → Nat × Nat} {ad : Nat → Nat} {σ : hSt} {c : Nat} (h : (K c).1 = 103) : clE ay K ad σ c = .inl (ay 103, (K c).2, .inr (.inl (σ.2.1 c))) := by
  simp [clE, h]
theorem clE_ref {ay : Nat → ClassId} {K : Nat → Nat × Nat} {ad : Nat → Nat} {σ : hSt} {c : Nat} (h : (K c).1 = 105) : clE ay K ad σ c = .inl (ay 105, (K c).2, .inr (.inr (.inr (.inr (fun i => (σ.2.2 c i).map ad))))) := by
  simp [clE, h]
theorem map_set {α : Type} (g : Nat → α) (N k : Nat) (x : α) : ((List.range N).map g).set k x = (List.range N).map (fun j => if j = k then x else g j) := by
  apply List.ext_getElem?
  intro i
  by_cases hi : i < N
  · by_cases hk : k = i
    · subst hk
      simp [List.getElem?_set, hi]
    · simp [List.getElem?_set, hi, hk, Ne.symm hk]
  · by_cases hk : k = i
    · subst hk
      simp [List.getElem?_set, hi]
    · simp [List.getElem?_set, hi, hk]
theorem wld_set {ay : Nat → ClassId} {K : Nat → Nat × Nat} {n : Nat} {ad : Nat → Nat} {σ σ' : hSt} {c : Nat} {e : va_E} (he : clE ay K ad σ' c = e) (ho : ∀ c', c' ≠ c → clE ay K ad σ' c' = clE ay K ad σ c') : (wld ay K n ad σ).set c (ad c, e) = wld ay K n ad σ' := by
  unfold wld
  rw [map_set]
  apply List.map_congr_left
  intro j _
  by_cases hj : j = c
  · subst hj
    rw [if_pos rfl, he]
  · rw [if_neg hj, ho j hj]
theorem clE_oth {ay : Nat → ClassId} {K : Nat → Nat × Nat} {ad : Nat → Nat} {σ σ' : hSt} {c : Nat} (h1 : σ'.1 c = σ.1 c) (h2 : σ'.2.1 c = σ.2.1 c) (h3 : σ'.2.2 c = σ.2.2 c) : clE ay K ad σ' c = clE ay K ad σ c := by
  have e : ∀ (k : Nat) (ty : FieldType), fvl ad σ' c k ty = fvl ad σ c k ty := fun k ty => by cases ty <;> simp [fvl, h1, h3]
  unfold clE ofl
  simp only [e, h1, h2, h3]
theorem up2_oth {α : Type} {f : Nat → Nat → α} {c k c' : Nat} {v : α} (h : c' ≠ c) : up2 f c k v c' = f c' := by
  funext j
  simp [up2, h]
theorem up2_own {α : Type} {f : Nat → Nat → α} {c k : Nat} {v : α} : up2 f c k v c = fun j => if j = k then v else f c j := by
  funext j
  simp [up2]
/-- an int field anew -/
theorem ofl_uI {ad : Nat → Nat} {σ : hSt} {c ci k : Nat} {v : Int32} (hty : fty ci k = .int ∨ fty ci k = .boolean) : (ofl ad σ c ci).set k (.int v) = ofl ad (uI σ c k v) c ci := by
  unfold ofl
  rw [map_set]
  apply List.map_congr_left
  intro j _
  by_cases hj : j = k
  · subst hj
    rw [if_pos rfl]
    rcases hty with h | h <;> simp [fvl, h, uI, up2]
  · rw [if_neg hj]
    cases fty ci j <;> simp [fvl, uI, up2, hj]
theorem ofl_uP {ad : Nat → Nat} {σ : hSt} {c ci k : Nat} {v : Option Nat} (hty : fty ci k ≠ .int ∧ fty ci k ≠ .boolean) : (ofl ad σ c ci).set k (va_rf (v.map ad)) = ofl ad (uP σ c k v) c ci := by
  unfold ofl
  rw [map_set]
  apply List.map_congr_left
  intro j _
  by_cases hj : j = k
  · subst hj
    rw [if_pos rfl]
    obtain ⟨h1, h2⟩ := hty
    cases h : fty ci j <;> simp_all [fvl, uP, up2]
  · rw [if_neg hj]
    cases fty ci j <;> simp [fvl, uP, up2, hj]
