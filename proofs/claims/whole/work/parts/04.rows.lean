/-! ===== BASE 3: worlds of cells; what a walk carries ===== -/
def aN (n : Nat) (ad : Nat → Nat) : Nat → Prop := fun q => ∃ c, c < n ∧ ad c = q
def hInj (n : Nat) (ad : Nat → Nat) : Prop := ∀ i j, i < n → j < n → ad i = ad j → i = j
def hNF (U : State) : Prop := ∀ q ∈ nestF, va_Nw (.fieldLinkNest q.1 q.2.1 q.2.2.1 q.2.2.2.1 q.2.2.2.2.1 q.2.2.2.2.2) U
def hNM (U : State) : Prop := ∀ q ∈ nestM, va_Nw (.methodLinkNest q.1 q.2.1 q.2.2.1 q.2.2.2) U
/-- what a walk takes from its start beside its own cells: the links of nest mates, the strings -/
def hX (A : Nat → Prop) (U : State) (H : Heap) : Prop := hNF U ∧ hNM U ∧ hXs A U H
theorem hX.warm {A : Nat → Prop} {s U : State} {H : Heap} (hW : s.WarmedH U.vm) (h : hX A s H) : hX A U H :=
  ⟨fun q hq => va_Nw.warmF hW (h.1 q hq), fun q hq => va_Nw.warmM hW (h.2.1 q hq), hXs.warm hW h.2.2⟩
theorem hX.same {A : Nat → Prop} {u U : State} {H : Heap} (hv : U.vm = u.vm) (h : hX A u H) : hX A U H :=
  ⟨fun q hq => va_Nw.same rfl hv.symm (h.1 q hq), fun q hq => va_Nw.same rfl hv.symm (h.2.1 q hq), hXs.same hv h.2.2⟩
theorem hX.kept {A : Nat → Prop} {U : State} {H H1 : Heap} (h : hX A U H) (hq : ∀ a : Nat, a < H.size → ¬ A a → H1[a]? = H[a]?) : hX A U H1 := ⟨h.1, h.2.1, hXs.kept h.2.2 hq⟩
theorem hX.narrow {A B : Nat → Prop} {U : State} {H : Heap} (h : hX A U H) (hAB : ∀ q, B q → A q) : hX B U H := ⟨h.1, h.2.1, hXs.narrow h.2.2 hAB⟩
def Gx (p : Program) (m : MethodId) (c : Code) (cc : ByteArray) (nL : Nat) (s : State) (args : Array Value) (own : String) (D : va_G) (ay : Nat → ClassId) (n : Nat) (ad : Nat → Nat) (A : Nat → Prop) : Prop :=
  CallFix p m c cc nL s args wsL_law own ∧ va_K D vwCl (tyL ay) s ∧ hInj n ad ∧ (∀ k, k < n → A (ad k)) ∧ hX A s s.heap
def Wd (D : va_G) (ay : Nat → ClassId) (K : Nat → Nat × Nat) (n : Nat) (ad : Nat → Nat) (A : Nat → Prop) (s : State) (σ : hSt) (H : Heap) (locs : List Loc) : Prop :=
  va_P D vwCl (wld ay K n ad σ) H ∧ va_S A s.heap H locs
theorem wld_apart {A : Nat → Prop} {ay : Nat → ClassId} {K : Nat → Nat × Nat} {n : Nat} {ad : Nat → Nat} {σ : hSt} (hi : hInj n ad) (hA : ∀ k, k < n → A (ad k)) : va_D A (wld ay K n ad σ) := by
  have key : ∀ (i : Nat) (q : Nat × va_E), (wld ay K n ad σ)[i]? = some q → i < n ∧ q.1 = ad i := by
    intro i q h
    by_cases hn : i < n
    · rw [wld_get hn] at h
      cases h
      exact ⟨hn, rfl⟩
    · simp [wld, hn] at h
  refine ⟨fun i j x y hx hy hxy => ?_, fun k q hk => ?_⟩
  · obtain ⟨h1, h2⟩ := key i x hx
    obtain ⟨h3, h4⟩ := key j y hy
    exact hi i j h1 h3 (by rw [← h2, ← h4]; exact hxy)
  · obtain ⟨h1, h2⟩ := key k q hk
    rw [h2]
    exact hA k h1
section HR
variable {p : Program} {l : Launch} {e : Env} {R : Room} {s : State} {m : MethodId} {args : Array Value} {below : List Frame} {meth : Method} {c : Code} {H : Heap} {locs : List Loc} {cells slots : Nat} {Q : State → Prop}
variable {cc : ByteArray} {nL pc : Nat} {ls : Array Slot} {rest : List Value} {D : va_G} {ay : Nat → ClassId} {K : Nat → Nat × Nat} {n : Nat} {ad : Nat → Nat} {A : Nat → Prop} {σ : hSt} {own : String}
theorem Gx.ap (G : Gx p m c cc nL s args own D ay n ad A) : va_D A (wld ay K n ad σ) := wld_apart G.2.2.1 G.2.2.2.1
theorem Gx.hx (G : Gx p m c cc nL s args own D ay n ad A) : p.tables.exec = Jvm.exec := G.1.1
theorem Gx.hb (G : Gx p m c cc nL s args own D ay n ad A) : c.code = cc := G.1.2.1
theorem Gx.hml (G : Gx p m c cc nL s args own D ay n ad A) : c.maxLocals = nL := G.1.2.2.1
theorem Gx.hown (G : Gx p m c cc nL s args own D ay n ad A) : s.vm.findClass own = some m.cls := G.1.2.2.2.1
theorem Gx.hts (G : Gx p m c cc nL s args own D ay n ad A) : ∀ w ∈ wsL_law, w.before args s = true := G.1.2.2.2.2
/-- the class of a number: its name, its fields, how many -/
def clsOk (ci : Nat) (C : String) (T : u_T) (N : Nat) : Prop := ci < 100 ∧ vwCl[ci]? = some (C, T, N) ∧ (∀ w ∈ u_ws C T N, w ∈ wsL_law) ∧ nfl ci = N
theorem r_geti {ci k idx N c0 : Nat} {C : String} {T : u_T} (hC : clsOk ci C T N) (hkN : k < N) (hty : fty ci k = .int ∨ fty ci k = .boolean) (hlink : Cond.fieldLink own idx (T k).1 (T k).2.1 (T k).2.2.1 ∈ wsL_law)
    (G : Gx p m c cc nL s args own D ay n ad A) (w : Wd D ay K n ad A s σ H locs) (hc : c0 < n) (hk : (K c0).1 = ci) (hdg : decode cc pc = .ok (.getfield idx, 3))
    (kk : W p l e R s m args below meth c H locs cells slots Q (F0 m (pc + 3) ls (.int (σ.1 c0 k) :: rest))) : W p l e R s m args below meth c H locs cells slots Q (F0 m pc ls (.ref (ad c0) :: rest)) := by
  obtain ⟨h1, h2, h3, h4⟩ := hC
  refine va_get (D := D) G.hx G.hb G.hts h3 G.hown G.2.1 w.1 c0 (by rw [wld_get hc, clE_obj hk h1]) h2 k hkN (G.hts _ hlink) (fun _ h9 => h9) (v := .int (σ.1 c0 k)) ?_ hdg kk
  rw [ofl_get (by rw [h4]; exact hkN)]
  rcases hty with h | h <;> simp [fvl, h]
theorem r_getiN {ci k idx N c0 : Nat} {C host : String} {T : u_T} (hC : clsOk ci C T N) (hkN : k < N) (hty : fty ci k = .int ∨ fty ci k = .boolean) (hlink : (own, idx, (T k).1, (T k).2.1, (T k).2.2.1, host) ∈ nestF)
    (G : Gx p m c cc nL s args own D ay n ad A) (w : Wd D ay K n ad A s σ H locs) (hc : c0 < n) (hk : (K c0).1 = ci) (hdg : decode cc pc = .ok (.getfield idx, 3))
    (kk : W p l e R s m args below meth c H locs cells slots Q (F0 m (pc + 3) ls (.int (σ.1 c0 k) :: rest))) : W p l e R s m args below meth c H locs cells slots Q (F0 m pc ls (.ref (ad c0) :: rest)) := by
  obtain ⟨h1, h2, h3, h4⟩ := hC
  refine va_getN (D := D) G.hx G.hb G.hts h3 G.hown G.2.1 w.1 c0 (by rw [wld_get hc, clE_obj hk h1]) h2 k hkN (va_Nw.use rfl (G.2.2.2.2.1 _ hlink)) (fun _ h9 => h9) (v := .int (σ.1 c0 k)) ?_ hdg kk
  rw [ofl_get (by rw [h4]; exact hkN)]
  rcases hty with h | h <;> simp [fvl, h]
theorem fvl_ref {c0 k a : Nat} {ty : FieldType} (hty : ty ≠ .int ∧ ty ≠ .boolean) (ha : σ.2.2 c0 k = some a) : fvl ad σ c0 k ty = .ref (ad a) := by
  cases ty <;> simp_all [fvl, va_rf]
theorem r_getr {ci k idx N c0 a : Nat} {C : String} {T : u_T} (hC : clsOk ci C T N) (hkN : k < N) (hty : fty ci k ≠ .int ∧ fty ci k ≠ .boolean) (hlink : Cond.fieldLink own idx (T k).1 (T k).2.1 (T k).2.2.1 ∈ wsL_law)
    (G : Gx p m c cc nL s args own D ay n ad A) (w : Wd D ay K n ad A s σ H locs) (hc : c0 < n) (hk : (K c0).1 = ci) (ha : σ.2.2 c0 k = some a) (hdg : decode cc pc = .ok (.getfield idx, 3))
    (kk : W p l e R s m args below meth c H locs cells slots Q (F0 m (pc + 3) ls (.ref (ad a) :: rest))) : W p l e R s m args below meth c H locs cells slots Q (F0 m pc ls (.ref (ad c0) :: rest)) := by
  obtain ⟨h1, h2, h3, h4⟩ := hC
  refine va_get (D := D) G.hx G.hb G.hts h3 G.hown G.2.1 w.1 c0 (by rw [wld_get hc, clE_obj hk h1]) h2 k hkN (G.hts _ hlink) (fun _ h9 => h9) (v := .ref (ad a)) ?_ hdg kk
  rw [ofl_get (by rw [h4]; exact hkN), fvl_ref hty ha]
theorem r_getrN {ci k idx N c0 a : Nat} {C host : String} {T : u_T} (hC : clsOk ci C T N) (hkN : k < N) (hty : fty ci k ≠ .int ∧ fty ci k ≠ .boolean) (hlink : (own, idx, (T k).1, (T k).2.1, (T k).2.2.1, host) ∈ nestF)
    (G : Gx p m c cc nL s args own D ay n ad A) (w : Wd D ay K n ad A s σ H locs) (hc : c0 < n) (hk : (K c0).1 = ci) (ha : σ.2.2 c0 k = some a) (hdg : decode cc pc = .ok (.getfield idx, 3))
    (kk : W p l e R s m args below meth c H locs cells slots Q (F0 m (pc + 3) ls (.ref (ad a) :: rest))) : W p l e R s m args below meth c H locs cells slots Q (F0 m pc ls (.ref (ad c0) :: rest)) := by
  obtain ⟨h1, h2, h3, h4⟩ := hC
  refine va_getN (D := D) G.hx G.hb G.hts h3 G.hown G.2.1 w.1 c0 (by rw [wld_get hc, clE_obj hk h1]) h2 k hkN (va_Nw.use rfl (G.2.2.2.2.1 _ hlink)) (fun _ h9 => h9) (v := .ref (ad a)) ?_ hdg kk
  rw [ofl_get (by rw [h4]; exact hkN), fvl_ref hty ha]
/-- what a class says of its fields' types and names -/
def clsTy (T : u_T) (N : Nat) (ty0 : Nat → FieldType) : Prop := (∀ k, k < N → parseFieldDescriptor (T k).2.2.1 = some (ty0 k)) ∧ (∀ a, a < N → ∀ b, b < N → a ≠ b → (T a).2.1 ≠ (T b).2.1)
theorem ofl_len {c0 ci : Nat} : (ofl ad σ c0 ci).length = nfl ci := by simp [ofl]
theorem uI_oth {c0 k c' : Nat} {v : Int32} (h : c' ≠ c0) : clE ay K ad (uI σ c0 k v) c' = clE ay K ad σ c' := clE_oth (up2_oth h) rfl rfl
theorem uJ_oth {c0 k c' : Nat} {v : Int64} (h : c' ≠ c0) : clE ay K ad (uJ σ c0 k v) c' = clE ay K ad σ c' := clE_oth rfl (up2_oth h) rfl
theorem uP_oth {c0 k c' : Nat} {v : Option Nat} (h : c' ≠ c0) : clE ay K ad (uP σ c0 k v) c' = clE ay K ad σ c' := clE_oth rfl rfl (up2_oth h)
theorem uA_oth {c0 c' : Nat} {f : Nat → Int32} (h : c' ≠ c0) : clE ay K ad (uA σ c0 f) c' = clE ay K ad σ c' := clE_oth (by simp [uA, h]) rfl rfl
theorem r_puti {ci k idx N c0 : Nat} {C : String} {T : u_T} {ty0 : Nat → FieldType} {v : Int32} {ty : FieldType} (hC : clsOk ci C T N) (hT : clsTy T N ty0) (hkN : k < N) (hty : fty ci k = .int ∨ fty ci k = .boolean) (hfin : (T k).2.2.2 = false) (hd : parseFieldDescriptor (T k).2.2.1 = some ty) (hlink : Cond.fieldLink own idx (T k).1 (T k).2.1 (T k).2.2.1 ∈ wsL_law) (hn : narrow ty (.int v) = .int v) (hfit : fits ty (.int v) = true)
    (G : Gx p m c cc nL s args own D ay n ad A) (w : Wd D ay K n ad A s σ H locs) (hc : c0 < n) (hk : (K c0).1 = ci) (hdg : decode cc pc = .ok (.putfield idx, 3))
    (kk : ∀ (H1 : Heap) (locs1 : List Loc), Wd D ay K n ad A s (uI σ c0 k v) H1 locs1 → W p l e R s m args below meth c H1 locs1 cells slots Q (F0 m (pc + 3) ls rest)) : W p l e R s m args below meth c H locs cells slots Q (F0 m pc ls (.int v :: .ref (ad c0) :: rest)) := by
  obtain ⟨h1, h2, h3, h4⟩ := hC
  refine va_put (D := D) (A := A) (H0 := s.heap) G.hx G.hb G.hts h3 ty0 hT.1 hT.2 G.hown G.2.1 w.1 G.ap w.2 c0 (by rw [wld_get hc, clE_obj hk h1]) h2 k hkN (G.hts _ hlink) (fun _ h9 => h9) hfin hd hn hfit (by rw [ofl_len, h4]; exact hkN) hdg (fun H1 locs1 hP hD hS => kk H1 locs1 ⟨?_, hS⟩)
  rw [ofl_uI hty] at hP
  rwa [wld_set (σ' := uI σ c0 k v) (by rw [clE_obj hk h1]) (fun c' h => uI_oth h)] at hP
theorem r_putiN {ci k idx N c0 : Nat} {C host : String} {T : u_T} {ty0 : Nat → FieldType} {v : Int32} {ty : FieldType} (hC : clsOk ci C T N) (hT : clsTy T N ty0) (hkN : k < N) (hty : fty ci k = .int ∨ fty ci k = .boolean) (hfin : (T k).2.2.2 = false) (hd : parseFieldDescriptor (T k).2.2.1 = some ty) (hlink : (own, idx, (T k).1, (T k).2.1, (T k).2.2.1, host) ∈ nestF) (hn : narrow ty (.int v) = .int v) (hfit : fits ty (.int v) = true)
    (G : Gx p m c cc nL s args own D ay n ad A) (w : Wd D ay K n ad A s σ H locs) (hc : c0 < n) (hk : (K c0).1 = ci) (hdg : decode cc pc = .ok (.putfield idx, 3))
    (kk : ∀ (H1 : Heap) (locs1 : List Loc), Wd D ay K n ad A s (uI σ c0 k v) H1 locs1 → W p l e R s m args below meth c H1 locs1 cells slots Q (F0 m (pc + 3) ls rest)) : W p l e R s m args below meth c H locs cells slots Q (F0 m pc ls (.int v :: .ref (ad c0) :: rest)) := by
  obtain ⟨h1, h2, h3, h4⟩ := hC
  refine va_putN (D := D) (A := A) (H0 := s.heap) G.hx G.hb G.hts h3 ty0 hT.1 hT.2 G.hown G.2.1 w.1 G.ap w.2 c0 (by rw [wld_get hc, clE_obj hk h1]) h2 k hkN (va_Nw.use rfl (G.2.2.2.2.1 _ hlink)) (fun _ h9 => h9) hfin hd hn hfit (by rw [ofl_len, h4]; exact hkN) hdg (fun H1 locs1 hP hD hS => kk H1 locs1 ⟨?_, hS⟩)
  rw [ofl_uI hty] at hP
  rwa [wld_set (σ' := uI σ c0 k v) (by rw [clE_obj hk h1]) (fun c' h => uI_oth h)] at hP
theorem r_putr {ci k idx N c0 a : Nat} {C : String} {T : u_T} {ty0 : Nat → FieldType} {ty : FieldType} (hC : clsOk ci C T N) (hT : clsTy T N ty0) (hkN : k < N) (hty : fty ci k ≠ .int ∧ fty ci k ≠ .boolean) (hfin : (T k).2.2.2 = false) (hd : parseFieldDescriptor (T k).2.2.1 = some ty) (hlink : Cond.fieldLink own idx (T k).1 (T k).2.1 (T k).2.2.1 ∈ wsL_law) (hn : ∀ q, narrow ty (.ref q) = .ref q) (hfit : ∀ q, fits ty (.ref q) = true)
    (G : Gx p m c cc nL s args own D ay n ad A) (w : Wd D ay K n ad A s σ H locs) (hc : c0 < n) (hk : (K c0).1 = ci) (hdg : decode cc pc = .ok (.putfield idx, 3))
    (kk : ∀ (H1 : Heap) (locs1 : List Loc), Wd D ay K n ad A s (uP σ c0 k (some a)) H1 locs1 → W p l e R s m args below meth c H1 locs1 cells slots Q (F0 m (pc + 3) ls rest)) : W p l e R s m args below meth c H locs cells slots Q (F0 m pc ls (.ref (ad a) :: .ref (ad c0) :: rest)) := by
  obtain ⟨h1, h2, h3, h4⟩ := hC
  refine va_put (D := D) (A := A) (H0 := s.heap) G.hx G.hb G.hts h3 ty0 hT.1 hT.2 G.hown G.2.1 w.1 G.ap w.2 c0 (by rw [wld_get hc, clE_obj hk h1]) h2 k hkN (G.hts _ hlink) (fun _ h9 => h9) hfin hd (hn _) (hfit _) (by rw [ofl_len, h4]; exact hkN) hdg (fun H1 locs1 hP hD hS => kk H1 locs1 ⟨?_, hS⟩)
  rw [show (Value.ref (ad a)) = va_rf ((some a).map ad) from rfl, ofl_uP hty] at hP
  rwa [wld_set (σ' := uP σ c0 k (some a)) (by rw [clE_obj hk h1]) (fun c' h => uP_oth h)] at hP
theorem r_iald {a : Nat} {i : Int32} (G : Gx p m c cc nL s args own D ay n ad A) (w : Wd D ay K n ad A s σ H locs) (hc : a < n) (hk : (K a).1 = 101) (hi : inb i (K a).2 = true) (hdg : decode cc pc = .ok (.iaload, 1))
    (kk : W p l e R s m args below meth c H locs cells slots Q (F0 m (pc + 1) ls (.int (σ.1 a i.toNatClampNeg) :: rest))) : W p l e R s m args below meth c H locs cells slots Q (F0 m pc ls (.int i :: .ref (ad a) :: rest)) :=
  va_iald G.hx G.hb G.2.1 w.1 a 1 (by rw [wld_get hc, clE_int hk (by decide) (by decide) (by decide)]) rfl (inb_in hi) hdg kk
theorem r_bald {a : Nat} {i : Int32} (G : Gx p m c cc nL s args own D ay n ad A) (w : Wd D ay K n ad A s σ H locs) (hc : a < n) (hk : (K a).1 = 100) (hi : inb i (K a).2 = true) (hdg : decode cc pc = .ok (.baload, 1))
    (kk : W p l e R s m args below meth c H locs cells slots Q (F0 m (pc + 1) ls (.int (σ.1 a i.toNatClampNeg) :: rest))) : W p l e R s m args below meth c H locs cells slots Q (F0 m pc ls (.int i :: .ref (ad a) :: rest)) :=
  va_bald G.hx G.hb G.2.1 w.1 a 0 (by rw [wld_get hc, clE_int hk (by decide) (by decide) (by decide)]) rfl (inb_in hi) hdg kk
theorem r_zald {a : Nat} {i : Int32} (G : Gx p m c cc nL s args own D ay n ad A) (w : Wd D ay K n ad A s σ H locs) (hc : a < n) (hk : (K a).1 = 102) (hi : inb i (K a).2 = true) (hdg : decode cc pc = .ok (.baload, 1))
    (kk : W p l e R s m args below meth c H locs cells slots Q (F0 m (pc + 1) ls (.int (σ.1 a i.toNatClampNeg) :: rest))) : W p l e R s m args below meth c H locs cells slots Q (F0 m pc ls (.int i :: .ref (ad a) :: rest)) :=
  va_zald G.hx G.hb G.2.1 w.1 a 2 (by rw [wld_get hc, clE_int hk (by decide) (by decide) (by decide)]) rfl (inb_in hi) hdg kk
theorem r_lald {a : Nat} {i : Int32} (G : Gx p m c cc nL s args own D ay n ad A) (w : Wd D ay K n ad A s σ H locs) (hc : a < n) (hk : (K a).1 = 103) (hi : inb i (K a).2 = true) (hdg : decode cc pc = .ok (.laload, 1))
    (kk : W p l e R s m args below meth c H locs cells slots Q (F0 m (pc + 1) ls (.long (σ.2.1 a i.toNatClampNeg) :: rest))) : W p l e R s m args below meth c H locs cells slots Q (F0 m pc ls (.int i :: .ref (ad a) :: rest)) :=
  va_lald G.hx G.hb G.2.1 w.1 a 3 (by rw [wld_get hc, clE_long hk]) rfl (inb_in hi) hdg kk
theorem r_aald {a b : Nat} {i : Int32} (G : Gx p m c cc nL s args own D ay n ad A) (w : Wd D ay K n ad A s σ H locs) (hc : a < n) (hk : (K a).1 = 105) (hi : inb i (K a).2 = true) (hv : σ.2.2 a i.toNatClampNeg = some b) (hdg : decode cc pc = .ok (.aaload, 1))
    (kk : W p l e R s m args below meth c H locs cells slots Q (F0 m (pc + 1) ls (.ref (ad b) :: rest))) : W p l e R s m args below meth c H locs cells slots Q (F0 m pc ls (.int i :: .ref (ad a) :: rest)) := by
  refine va_aldq G.hx G.hb G.2.1 w.1 a 4 (by rw [wld_get hc, clE_ref hk]) rfl (inb_in hi) hdg ?_
  rw [hv]
  exact kk
theorem upd_up2 {a k : Nat} {x : Int32} : upd (σ.1 a) k x = (uI σ a k x).1 a := by
  funext j
  simp [upd, uI, up2]
theorem r_iast {a : Nat} {i x : Int32} (G : Gx p m c cc nL s args own D ay n ad A) (w : Wd D ay K n ad A s σ H locs) (hc : a < n) (hk : (K a).1 = 101) (hi : inb i (K a).2 = true) (hdg : decode cc pc = .ok (.iastore, 1))
    (kk : ∀ (H1 : Heap) (locs1 : List Loc), Wd D ay K n ad A s (uI σ a i.toNatClampNeg x) H1 locs1 → W p l e R s m args below meth c H1 locs1 cells slots Q (F0 m (pc + 1) ls rest)) : W p l e R s m args below meth c H locs cells slots Q (F0 m pc ls (.int x :: .int i :: .ref (ad a) :: rest)) := by
  refine va_iast (A := A) (H0 := s.heap) G.hx G.hb G.2.1 w.1 G.ap w.2 a 1 (by rw [wld_get hc, clE_int hk (by decide) (by decide) (by decide)]) rfl (inb_in hi) hdg (fun H1 locs1 hP hD hS => kk H1 locs1 ⟨?_, hS⟩)
  rw [upd_up2] at hP
  rwa [wld_set (σ' := uI σ a i.toNatClampNeg x) (by rw [clE_int hk (by decide) (by decide) (by decide)]) (fun c' h => uI_oth h)] at hP
theorem r_bast {a : Nat} {i x : Int32} (G : Gx p m c cc nL s args own D ay n ad A) (w : Wd D ay K n ad A s σ H locs) (hc : a < n) (hk : (K a).1 = 100) (hi : inb i (K a).2 = true) (hdg : decode cc pc = .ok (.bastore, 1))
    (kk : ∀ (H1 : Heap) (locs1 : List Loc), Wd D ay K n ad A s (uI σ a i.toNatClampNeg (vp_nar .byte x)) H1 locs1 → W p l e R s m args below meth c H1 locs1 cells slots Q (F0 m (pc + 1) ls rest)) : W p l e R s m args below meth c H locs cells slots Q (F0 m pc ls (.int x :: .int i :: .ref (ad a) :: rest)) := by
  refine va_bast (A := A) (H0 := s.heap) G.hx G.hb G.2.1 w.1 G.ap w.2 a 0 (by rw [wld_get hc, clE_int hk (by decide) (by decide) (by decide)]) rfl (inb_in hi) hdg (fun H1 locs1 hP hD hS => kk H1 locs1 ⟨?_, hS⟩)
  rw [upd_up2] at hP
  rwa [wld_set (σ' := uI σ a i.toNatClampNeg (vp_nar .byte x)) (by rw [clE_int hk (by decide) (by decide) (by decide)]) (fun c' h => uI_oth h)] at hP
theorem r_zast {a : Nat} {i x : Int32} (G : Gx p m c cc nL s args own D ay n ad A) (w : Wd D ay K n ad A s σ H locs) (hc : a < n) (hk : (K a).1 = 102) (hi : inb i (K a).2 = true) (hdg : decode cc pc = .ok (.bastore, 1))
    (kk : ∀ (H1 : Heap) (locs1 : List Loc), Wd D ay K n ad A s (uI σ a i.toNatClampNeg (vp_nar .boolean x)) H1 locs1 → W p l e R s m args below meth c H1 locs1 cells slots Q (F0 m (pc + 1) ls rest)) : W p l e R s m args below meth c H locs cells slots Q (F0 m pc ls (.int x :: .int i :: .ref (ad a) :: rest)) := by
  refine va_zast (A := A) (H0 := s.heap) G.hx G.hb G.2.1 w.1 G.ap w.2 a 2 (by rw [wld_get hc, clE_int hk (by decide) (by decide) (by decide)]) rfl (inb_in hi) hdg (fun H1 locs1 hP hD hS => kk H1 locs1 ⟨?_, hS⟩)
  rw [upd_up2] at hP
  rwa [wld_set (σ' := uI σ a i.toNatClampNeg (vp_nar .boolean x)) (by rw [clE_int hk (by decide) (by decide) (by decide)]) (fun c' h => uI_oth h)] at hP
theorem updL_up2 {a k : Nat} {x : Int64} : vp_updL (σ.2.1 a) k x = (uJ σ a k x).2.1 a := by
  funext j
  simp [vp_updL, uJ, up2]
theorem r_last {a : Nat} {i : Int32} {x : Int64} (G : Gx p m c cc nL s args own D ay n ad A) (w : Wd D ay K n ad A s σ H locs) (hc : a < n) (hk : (K a).1 = 103) (hi : inb i (K a).2 = true) (hdg : decode cc pc = .ok (.lastore, 1))
    (kk : ∀ (H1 : Heap) (locs1 : List Loc), Wd D ay K n ad A s (uJ σ a i.toNatClampNeg x) H1 locs1 → W p l e R s m args below meth c H1 locs1 cells slots Q (F0 m (pc + 1) ls rest)) : W p l e R s m args below meth c H locs cells slots Q (F0 m pc ls (.long x :: .int i :: .ref (ad a) :: rest)) := by
  refine va_last (A := A) (H0 := s.heap) G.hx G.hb G.2.1 w.1 G.ap w.2 a 3 (by rw [wld_get hc, clE_long hk]) rfl (inb_in hi) hdg (fun H1 locs1 hP hD hS => kk H1 locs1 ⟨?_, hS⟩)
  rw [updL_up2] at hP
  rwa [wld_set (σ' := uJ σ a i.toNatClampNeg x) (by rw [clE_long hk]) (fun c' h => uJ_oth h)] at hP
theorem clE_arr {a t : Nat} (hk : (K a).1 = t) (ht : ¬ t < 100) : ∃ x : vp_A, x.1 = (K a).2 ∧ clE ay K ad σ a = .inl (ay t, x) := by
  subst hk
  unfold clE
  rw [if_neg ht]
  exact ⟨(_, _), rfl, rfl⟩
theorem r_alen {a t0 t : Nat} {ty : FieldType} (hk : (K a).1 = t) (ht : ¬ t < 100) (hty : (tyL ay)[t0]? = some (ay t, ty)) (G : Gx p m c cc nL s args own D ay n ad A) (w : Wd D ay K n ad A s σ H locs) (hc : a < n) (hdg : decode cc pc = .ok (.arraylength, 1))
    (kk : W p l e R s m args below meth c H locs cells slots Q (F0 m (pc + 1) ls (.int (Int32.ofNat (K a).2) :: rest))) : W p l e R s m args below meth c H locs cells slots Q (F0 m pc ls (.ref (ad a) :: rest)) := by
  obtain ⟨x, h1, h2⟩ := clE_arr (ay := ay) (ad := ad) (σ := σ) hk ht
  exact va_alen G.hx G.hb G.2.1 w.1 a t0 (by rw [wld_get hc, h2]) hty (by rw [h1]) hdg kk
end HR
