/-! ===== the two texts of the class and the JDK's charAt and indexOf over them ===== -/
def wordsAt (k : Nat) : Int32 := Int32.ofNat (("hill    news    at      hears   if      then    else    order   free    topic   any     other   sleeper far     wind    fog     day     from    to      ".toList.getD k ' ').toNat)
def isC8 (c : Int32) : Bool := decide (0 ≤ c) && decide (c < 256)
def signsIdx (c : Int32) : Int32 := if c = 59 then 0 else if c = 61 then 1 else if c = 43 then 2 else if c = 45 then 3 else if c = 42 then 4 else if c = 47 then 5 else if c = 60 then 6 else if c = 40 then 7 else if c = 41 then 8 else -1
def hStr (_ : Nat) (_ : Nat) (_ : State) : Prop := True
section HS
variable {p : Program} {l : Launch} {e : Env} {R : Room} {s : State} {m : MethodId} {args : Array Value} {below : List Frame} {meth : Method} {c : Code} {H : Heap} {locs : List Loc} {cells slots : Nat} {Q : State → Prop}
variable {cc : ByteArray} {nL pc : Nat} {ls : Array Slot} {rest : List Value} {D : va_G} {ay : Nat → ClassId} {K : Nat → Nat × Nat} {n : Nat} {ad : Nat → Nat} {A : Nat → Prop} {σ : hSt}
theorem r_ldcS0 (G : Gx p m c cc nL s args RX8 D ay n ad A) (w : Wd D ay K n ad A s σ H locs) (hdg : decode cc pc = .ok (.ldc 68, 2)) (kk : ∀ q : Nat, hStr 0 q s → W p l e R s m args below meth c H locs cells slots Q (F0 m (pc + 2) ls (.ref q :: rest))) : W p l e R s m args below meth c H locs cells slots Q (F0 m pc ls rest) := by
  sorry
theorem r_ldcS1 (G : Gx p m c cc nL s args RX8 D ay n ad A) (w : Wd D ay K n ad A s σ H locs) (hdg : decode cc pc = .ok (.ldc 56, 2)) (kk : ∀ q : Nat, hStr 1 q s → W p l e R s m args below meth c H locs cells slots Q (F0 m (pc + 2) ls (.ref q :: rest))) : W p l e R s m args below meth c H locs cells slots Q (F0 m pc ls rest) := by
  sorry
theorem r_charAt {q : Nat} {i : Int32} (hR : 6 ≤ R.frames ∧ 200 ≤ R.locals) (hW : (rest.map fun v => v.category).sum ≤ 8) (G : Gx p m c cc nL s args RX8 D ay n ad A) (w : Wd D ay K n ad A s σ H locs) (hq : hStr 0 q s) (hi : inb i 152 = true) (hls : ls.size = nL) (hdg : decode cc pc = .ok (.invokevirtual 70, 3))
    (kk : ∀ (H1 : Heap) (locs1 : List Loc), Wd D ay K n ad A s σ H1 locs1 → W p l e R s m args below meth c H1 locs1 cells slots Q (F0 m (pc + 3) ls (.int (wordsAt i.toNatClampNeg) :: rest))) : W p l e R s m args below meth c H locs cells slots Q (F0 m pc ls (.int i :: .ref q :: rest)) := by
  sorry
theorem r_indexOf {q : Nat} {i : Int32} (hR : 8 ≤ R.frames ∧ 300 ≤ R.locals) (hW : (rest.map fun v => v.category).sum ≤ 8) (G : Gx p m c cc nL s args RX8 D ay n ad A) (w : Wd D ay K n ad A s σ H locs) (hq : hStr 1 q s) (hi : isC8 i = true) (hls : ls.size = nL) (hdg : decode cc pc = .ok (.invokevirtual 58, 3))
    (kk : ∀ (H1 : Heap) (locs1 : List Loc), Wd D ay K n ad A s σ H1 locs1 → W p l e R s m args below meth c H1 locs1 cells slots Q (F0 m (pc + 3) ls (.int (signsIdx i) :: rest))) : W p l e R s m args below meth c H locs cells slots Q (F0 m pc ls (.int i :: .ref q :: rest)) := by
  sorry
end HS
