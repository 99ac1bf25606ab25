/-! ===== BASE 6: methods that make cells (the constructors) ===== -/
def zO (s : hSt) (c : Nat) : hSt := ((fun c' => if c' = c then (fun _ => 0) else s.1 c'), (fun c' => if c' = c then (fun _ => 0) else s.2.1 c'), (fun c' => if c' = c then (fun _ => none) else s.2.2 c'))
def RO (n : Nat) (σ : hSt) : Prop := ∀ c k r, σ.2.2 c k = some r → r < n
def aZ (n : Nat) (ad : Nat → Nat) (sz : Nat) : Nat → Prop := fun q => aN n ad q ∨ sz ≤ q
/-- a world that grows: n cells now, n0 at the method's start; b: no reference leads out of it -/
def Wa (D : va_G) (ay : Nat → ClassId) (K : Nat → Nat × Nat) (n0 : Nat) (ad0 : Nat → Nat) (b : Bool) (n : Nat) (ad : Nat → Nat) (A : Nat → Prop) (s : State) (σ : hSt) (H : Heap) (locs : List Loc) : Prop :=
  Wd D ay K n ad A s σ H locs ∧ hInj n ad ∧ (∀ k, k < n → A (ad k)) ∧ (n0 ≤ n ∧ ∀ k, k < n0 → ad k = ad0 k) ∧ (b = true → RO n σ)
def Gy (p : Program) (m : MethodId) (c : Code) (cc : ByteArray) (nL : Nat) (s : State) (args : Array Value) (own : String) (D : va_G) (ay : Nat → ClassId) (A : Nat → Prop) : Prop :=
  CallFix p m c cc nL s args wsL_law own ∧ va_K D vwCl (tyL ay) s ∧ hX A s s.heap ∧ ∀ q, s.heap.size ≤ q → A q
theorem Gy.gx {p : Program} {m : MethodId} {c : Code} {cc : ByteArray} {nL : Nat} {s : State} {args : Array Value} {own : String} {D : va_G} {ay : Nat → ClassId} {A : Nat → Prop} {K : Nat → Nat × Nat} {n0 n : Nat} {ad0 ad : Nat → Nat} {b : Bool} {σ : hSt} {H : Heap} {locs : List Loc}
    (G : Gy p m c cc nL s args own D ay A) (w : Wa D ay K n0 ad0 b n ad A s σ H locs) : Gx p m c cc nL s args own D ay n ad A := ⟨G.1, G.2.1, w.2.1, w.2.2.1, G.2.2.1⟩
theorem clE_ad {ay : Nat → ClassId} {K : Nat → Nat × Nat} {ad ad' : Nat → Nat} {σ : hSt} {c : Nat} (h : ∀ k r, σ.2.2 c k = some r → ad' r = ad r) : clE ay K ad' σ c = clE ay K ad σ c := by
  have e : ∀ k, (σ.2.2 c k).map ad' = (σ.2.2 c k).map ad := fun k => by
    cases hk : σ.2.2 c k with
    | none => rfl
    | some r => simp [h k r hk]
  have e2 : ∀ (k : Nat) (ty : FieldType), fvl ad' σ c k ty = fvl ad σ c k ty := fun k ty => by cases ty <;> simp [fvl, e]
  unfold clE ofl
  simp only [e, e2]
theorem clE_z {ay : Nat → ClassId} {K : Nat → Nat × Nat} {ad : Nat → Nat} {σ : hSt} {c n : Nat} (h : c ≠ n) : clE ay K ad (zO σ n) c = clE ay K ad σ c := clE_oth (by simp [zO, h]) (by simp [zO, h]) (by simp [zO, h])
theorem wld_succ {ay : Nat → ClassId} {K : Nat → Nat × Nat} {n : Nat} {ad : Nat → Nat} {σ : hSt} : wld ay K (n + 1) ad σ = wld ay K n ad σ ++ [(ad n, clE ay K ad σ n)] := by
  simp [wld, List.range_succ]
theorem Wa.grow {D : va_G} {ay : Nat → ClassId} {K : Nat → Nat × Nat} {n0 n q : Nat} {ad0 ad : Nat → Nat} {A : Nat → Prop} {s : State} {σ : hSt} {H H1 : Heap} {locs : List Loc} {e : va_E}
    (w : Wa D ay K n0 ad0 true n ad A s σ H locs) (he : clE ay K ad (zO σ n) n = e) (hP : va_P D vwCl (wld ay K n ad σ ++ [(q, e)]) H1) (hD : va_D A (wld ay K n ad σ ++ [(q, e)])) (hS : va_S A s.heap H1 locs) :
    Wa D ay K n0 ad0 true (n + 1) (va_up ad n q) A s (zO σ n) H1 locs := by
  obtain ⟨⟨hP0, hS0⟩, hi, hA, ⟨hn, hag⟩, hR⟩ := w
  have hR := hR rfl
  have hup : ∀ k, k < n → va_up ad n q k = ad k := fun k hk => va_up_ne _ _ (Nat.ne_of_lt hk)
  have hself : va_up ad n q n = q := va_up_self _ _ _
  have eW : wld ay K (n + 1) (va_up ad n q) (zO σ n) = wld ay K n ad σ ++ [(q, e)] := by
    rw [wld_succ, hself]
    have e1 : wld ay K n (va_up ad n q) (zO σ n) = wld ay K n ad σ := by
      unfold wld
      apply List.map_congr_left
      intro c hc
      have hc := List.mem_range.mp hc
      rw [hup c hc, clE_z (Nat.ne_of_lt hc), clE_ad (fun k r h => hup r (hR c k r h))]
    rw [e1, clE_ad (ad := ad) (fun k r h => by simp [zO] at h), he]
  rw [← eW] at hP hD
  refine ⟨⟨hP, hS⟩, fun i j hi' hj' h => ?_, fun k hk => ?_, ⟨by omega, fun k hk => ?_⟩, fun _ c k r h => ?_⟩
  · exact hD.1 i j _ _ (wld_get hi') (wld_get hj') h
  · exact hD.2 k _ (wld_get hk)
  · rw [hup k (by omega)]; exact hag k hk
  · by_cases hc : c = n
    · simp [zO, hc] at h
    · have : r < n := hR c k r (by simpa [zO, hc] using h)
      omega
def okT (ty : FieldType) : Bool := match ty with
  | .int => true
  | .boolean => true
  | .object _ => true
  | .array _ => true
  | _ => false
theorem fvl_z {ad : Nat → Nat} {σ : hSt} {n j : Nat} {ty : FieldType} (h : okT ty = true) : fvl ad (zO σ n) n j ty = defaultValue ty := by
  cases ty <;> first | (simp [okT] at h; done) | (simp [fvl, zO, va_rf]; rfl)
def hPreA (D : va_G) (ay : Nat → ClassId) (K : Nat → Nat × Nat) (n : Nat) (ad : Nat → Nat) (sz : Nat) (σ : hSt) (U : State) : Prop := U.heap.size = sz ∧ va_P D vwCl (wld ay K n ad σ) U.heap ∧ va_K D vwCl (tyL ay) U ∧ hX (aZ n ad sz) U U.heap
def cA (D : va_G) (ay : Nat → ClassId) (K : Nat → Nat × Nat) (n : Nat) (ad : Nat → Nat) (sz : Nat) (b : Bool) (n' : Nat) (σ' : hSt) : Array Value → State → Outcome → State → Prop :=
  va_Qv (fun (u : Nat → Nat) => n ≤ n' ∧ ∀ k, k < n → u k = ad k) (fun u t => va_P D vwCl (wld ay K n' u σ') t.heap ∧ hInj n' u ∧ (∀ k, n ≤ k → k < n' → sz ≤ u k) ∧ (b = true → RO n' σ')) (aZ n ad sz)
abbrev hMA (l : Launch) (D : va_G) (ay : Nat → ClassId) (K : Nat → Nat × Nat) (n : Nat) (ad : Nat → Nat) (sz : Nat) (y : MethodName) (b : ByteArray) (nL : Nat) (rm : Room) (avs : List Value) (σ : hSt) (bb : Bool) (n' : Nat) (σ' : hSt) (mc ms : Nat) : Prop :=
  Met l y (Cond.code y b nL none :: wsL_law) rm (va_Pc avs (hPreA D ay K n ad sz σ)) (cA D ay K n ad sz bb n' σ') mc ms (aZ n ad sz)
abbrev rmA (f v mc ms : Nat) : Room := { frames := f, cells := mc, slots := ms, locals := v }
theorem hMA_in {l : Launch} {D : va_G} {ay : Nat → ClassId} {K : Nat → Nat × Nat} {n : Nat} {ad : Nat → Nat} {sz : Nat} {y : MethodName} {b : ByteArray} {nL : Nat} {f v mc ms : Nat} {avs : List Value} {σ : hSt} {bb : Bool} {n' : Nat} {σ' : hSt}
    (hy : plainName y.cls = true) (hyn : y.name = "<init>") (hi : hInj n ad) (hR : RO n σ) (hsz : (lg_sl avs).length ≤ nL)
    (body : ∀ (p : Program) (e : Env) (s : State) (m : MethodId) (below : List Frame) (meth : Method) (c : Code), s.heap.size = sz → Gy p m c b nL s avs.toArray y.cls D ay (aZ n ad sz) → (meth.sig.returnType = none ∧ meth.locks = false ∧ meth.name = "<init>") → Wa D ay K n ad true n ad (aZ n ad sz) s σ s.heap [] → ∀ ls : Array Slot, lv_has ls nL (lv_args 0 avs) → W p l e (rmA f v mc ms) s m avs.toArray below meth c s.heap [] 0 0 (MQ below (cA D ay K n ad sz bb n' σ') avs.toArray s mc ms (aZ n ad sz)) (F0 m 0 ls [])) :
    hMA l D ay K n ad sz y b nL (rmA f v mc ms) avs σ bb n' σ' mc ms := by
  refine Met.ofW (cc := b) (maxL := nL) (ret := none) hy rfl ?_
  intro p e s m args below meth c s₁ B hml hv
  obtain ⟨rfl, hz, hP, hK, hX0⟩ := hv
  have hts := atoms_spec (ws := Cond.code y b nL none :: wsL_law) B.pre
  have hown : s.vm.findClass y.cls = some m.cls := findClass_of_methodNamed B.named
  have hl := lv_entry avs (n := nL) hsz
  rw [lg_entry_eq]
  refine body p e s m below meth c hz ⟨⟨B.exec, B.bytes, hml, hown, fun w hw => hts w (List.mem_cons_of_mem _ hw)⟩, hK, hX0, fun q hq => Or.inr (by rw [← hz]; exact hq)⟩ ⟨B.returns, B.notSynchronized, by rw [← hyn]; exact (name_of_methodNamed B.named B.method).1⟩ ⟨⟨hP, va_S.rf⟩, hi, fun k hk => Or.inl ⟨k, hk, rfl⟩, ⟨Nat.le_refl _, fun _ _ => rfl⟩, fun _ => hR⟩ _ hl
section HA
variable {p : Program} {l : Launch} {e : Env} {R : Room} {s : State} {m : MethodId} {args : Array Value} {below : List Frame} {meth : Method} {c : Code} {H : Heap} {locs : List Loc} {cells slots : Nat} {Q : State → Prop}
variable {cc : ByteArray} {nL pc : Nat} {ls : Array Slot} {rest : List Value} {D : va_G} {ay : Nat → ClassId} {K : Nat → Nat × Nat} {n0 n sz : Nat} {ad0 ad : Nat → Nat} {A : Nat → Prop} {σ : hSt} {own : String} {bb : Bool}
theorem r_new {ci idx N : Nat} {C : String} {T : u_T} (hC : clsOk ci C T N) (hT : clsTy T N (fty ci)) (hty : ∀ j, j < N → okT (fty ci j) = true) (hcl : Cond.classLink own idx C ∈ wsL_law) (hins : Cond.instantiable C N ∈ wsL_law) (hini : Cond.initialized C ∈ wsL_law)
    (G : Gy p m c cc nL s args own D ay A) (w : Wa D ay K n0 ad0 true n ad A s σ H locs) (hK : (K n == (ci, 0)) = true) (hf : cells + 1 ≤ R.cells ∧ slots + N ≤ R.slots) (hdg : decode cc pc = .ok (.new idx, 3))
    (kk : ∀ (H1 : Heap) (ad1 : Nat → Nat), (∀ k, k < n → ad1 k = ad k) → Wa D ay K n0 ad0 true (n + 1) ad1 A s (zO σ n) H1 locs → W p l e R s m args below meth c H1 locs (cells + 1) (slots + N) Q (F0 m (pc + 3) ls (.ref (ad1 n) :: rest))) : W p l e R s m args below meth c H locs cells slots Q (F0 m pc ls rest) := by
  have G' := G.gx w
  have hK : K n = (ci, 0) := by simpa using hK
  obtain ⟨h1, h2, h3, h4⟩ := hC
  refine va_new (D := D) (A := A) (H0 := s.heap) (fs := ofl ad (zO σ n) n ci) G'.hx G'.hb G'.hts h3 (fty ci) hT.1 G'.hown (G'.hts _ hcl) (G'.hts _ hins) (G'.hts _ hini) G.2.1 w.1.1 G'.ap w.1.2 G.2.2.2 h2 (fun j hj => ?_) hf.1 hf.2 hdg (fun q H1 hP hD hS => ?_)
  · have h5 := ofl_get (ad := ad) (σ := zO σ n) (c := n) (ci := ci) (k := j) (by rw [h4]; exact hj)
    show _ = (ofl ad (zO σ n) n ci).getD j .null
    rw [List.getD_eq_getElem?_getD, h5, fvl_z (hty j hj)]
    rfl
  · have w1 := w.grow (q := q) (e := .inr (ci, ofl ad (zO σ n) n ci)) (by rw [clE_obj (by rw [hK]) h1]) hP hD hS
    have := kk H1 (va_up ad n q) (fun k hk => va_up_ne _ _ (Nat.ne_of_lt hk)) w1
    rwa [va_up_self] at this
theorem r_newI {t t0 N : Nat} {z : Int32} {atype : ArrayType} {ty : FieldType} (hN : z.toNatClampNeg = N ∧ ¬ z < 0) (ht : t = 100 ∧ ty = .byte ∧ t0 = 0 ∨ t = 101 ∧ ty = .int ∧ t0 = 1 ∨ t = 102 ∧ ty = .boolean ∧ t0 = 2) (hat : newarray.typeOf atype = ty) (hac : Cond.arrayClass ty ∈ wsL_law) (hby : N * componentBytes ty ≤ 536870912)
    (G : Gy p m c cc nL s args own D ay A) (w : Wa D ay K n0 ad0 true n ad A s σ H locs) (hK : (K n == (t, N)) = true) (hf : cells + 1 ≤ R.cells ∧ slots + N ≤ R.slots) (hdg : decode cc pc = .ok (.newarray atype, 2))
    (kk : ∀ (H1 : Heap) (ad1 : Nat → Nat), (∀ k, k < n → ad1 k = ad k) → Wa D ay K n0 ad0 true (n + 1) ad1 A s (zO σ n) H1 locs → W p l e R s m args below meth c H1 locs (cells + 1) (slots + N) Q (F0 m (pc + 2) ls (.ref (ad1 n) :: rest))) : W p l e R s m args below meth c H locs cells slots Q (F0 m pc ls (.int z :: rest)) := by
  have G' := G.gx w
  have hK : K n = (t, N) := by simpa using hK
  have hty : (tyL ay)[t0]? = some (ay t, ty) := by rcases ht with ⟨rfl, rfl, rfl⟩ | ⟨rfl, rfl, rfl⟩ | ⟨rfl, rfl, rfl⟩ <;> rfl
  refine va_newa (A := A) (H0 := s.heap) G'.hx G'.hb (atype := atype) (by rw [hat]; exact G'.hts _ hac) hat G.2.1 w.1.1 G'.ap w.1.2 G.2.2.2 (a0 := (N, .inl (fun _ => 0))) (fun cA => ?_) hN.2 hN.1 hby hf.1 hf.2 hdg (fun q cA H1 hK1 hP hD hS => ?_)
  · rw [vp_cell_i]
    rcases ht with ⟨rfl, rfl, rfl⟩ | ⟨rfl, rfl, rfl⟩ | ⟨rfl, rfl, rfl⟩ <;> rfl
  · have hcA : cA = ay t := by
      have h1 := (hK1.2 _ _ (by rw [List.getElem?_append_right (Nat.le_refl _), Nat.sub_self]; rfl)).2
      have h2 := (G.2.1.2 t0 _ hty).2
      rcases ht with ⟨rfl, rfl, rfl⟩ | ⟨rfl, rfl, rfl⟩ | ⟨rfl, rfl, rfl⟩ <;> exact Option.some.inj (h1.symm.trans h2)
    subst hcA
    have w1 := w.grow (q := q) (e := .inl (ay t, N, .inl (fun _ => 0))) ?_ hP hD hS
    · have := kk H1 (va_up ad n q) (fun k hk => va_up_ne _ _ (Nat.ne_of_lt hk)) w1
      rwa [va_up_self] at this
    · rw [clE_int (t := t) (by rw [hK]) (by rcases ht with ⟨rfl, -⟩ | ⟨rfl, -⟩ | ⟨rfl, -⟩ <;> decide) (by rcases ht with ⟨rfl, -⟩ | ⟨rfl, -⟩ | ⟨rfl, -⟩ <;> decide) (by rcases ht with ⟨rfl, -⟩ | ⟨rfl, -⟩ | ⟨rfl, -⟩ <;> decide), hK]
      simp [zO]
theorem r_newJ {N : Nat} {z : Int32} (hN : z.toNatClampNeg = N ∧ ¬ z < 0) (hac : Cond.arrayClass .long ∈ wsL_law) (hby : N * componentBytes .long ≤ 536870912)
    (G : Gy p m c cc nL s args own D ay A) (w : Wa D ay K n0 ad0 true n ad A s σ H locs) (hK : (K n == (103, N)) = true) (hf : cells + 1 ≤ R.cells ∧ slots + N ≤ R.slots) (hdg : decode cc pc = .ok (.newarray .long, 2))
    (kk : ∀ (H1 : Heap) (ad1 : Nat → Nat), (∀ k, k < n → ad1 k = ad k) → Wa D ay K n0 ad0 true (n + 1) ad1 A s (zO σ n) H1 locs → W p l e R s m args below meth c H1 locs (cells + 1) (slots + N) Q (F0 m (pc + 2) ls (.ref (ad1 n) :: rest))) : W p l e R s m args below meth c H locs cells slots Q (F0 m pc ls (.int z :: rest)) := by
  have G' := G.gx w
  have hK : K n = (103, N) := by simpa using hK
  refine va_newa (A := A) (H0 := s.heap) G'.hx G'.hb (atype := .long) (G'.hts _ hac) rfl G.2.1 w.1.1 G'.ap w.1.2 G.2.2.2 (a0 := (N, .inr (.inl (fun _ => 0)))) (fun cA => by rw [vp_cell_l]; rfl) hN.2 hN.1 hby hf.1 hf.2 hdg (fun q cA H1 hK1 hP hD hS => ?_)
  have hcA : cA = ay 103 := by
    have h1 := (hK1.2 _ _ (by rw [List.getElem?_append_right (Nat.le_refl _), Nat.sub_self]; rfl)).2
    have h2 := (G.2.1.2 3 _ rfl).2
    exact Option.some.inj (h1.symm.trans h2)
  subst hcA
  have w1 := w.grow (q := q) (e := .inl (ay 103, N, .inr (.inl (fun _ => 0)))) (by rw [clE_long (by rw [hK]), hK]; simp [zO]) hP hD hS
  have := kk H1 (va_up ad n q) (fun k hk => va_up_ne _ _ (Nat.ne_of_lt hk)) w1
  rwa [va_up_self] at this
theorem r_newQ {idx N : Nat} {z : Int32} (hN : z.toNatClampNeg = N ∧ ¬ z < 0) (hcl : Cond.classLink own idx "HillDrums$World" ∈ wsL_law) (hby : N * 4 ≤ 536870912)
    (G : Gy p m c cc nL s args own D ay A) (w : Wa D ay K n0 ad0 true n ad A s σ H locs) (hK : (K n == (105, N)) = true) (hf : cells + 1 ≤ R.cells ∧ slots + N ≤ R.slots) (hdg : decode cc pc = .ok (.anewarray idx, 3))
    (kk : ∀ (H1 : Heap) (ad1 : Nat → Nat), (∀ k, k < n → ad1 k = ad k) → Wa D ay K n0 ad0 true (n + 1) ad1 A s (zO σ n) H1 locs → W p l e R s m args below meth c H1 locs (cells + 1) (slots + N) Q (F0 m (pc + 3) ls (.ref (ad1 n) :: rest))) : W p l e R s m args below meth c H locs cells slots Q (F0 m pc ls (.int z :: rest)) := by
  have G' := G.gx w
  have hK : K n = (105, N) := by simpa using hK
  refine va_newq (A := A) (H0 := s.heap) G'.hx G'.hb G'.hown (G'.hts _ hcl) (hXs.ao G.2.2.1.2.2) G.2.1 w.1.1 G'.ap w.1.2 G.2.2.2 hN.2 hN.1 hby hf.1 hf.2 hdg (fun q cA H1 hK1 hP hD hS => ?_)
  have hcA : cA = ay 105 := by
    obtain ⟨k1, c1, -, -, -, h1⟩ := (hK1.2 _ _ (by rw [List.getElem?_append_right (Nat.le_refl _), Nat.sub_self]; rfl)).2
    obtain ⟨k2, c2, -, -, -, h2⟩ := (G.2.1.2 4 _ rfl).2
    exact Option.some.inj (h1.symm.trans h2)
  subst hcA
  have w1 := w.grow (q := q) (e := .inl (ay 105, N, .inr (.inr (.inr (.inr (fun _ => none)))))) (by rw [clE_ref (by rw [hK]), hK]; simp [zO]) hP hD hS
  have := kk H1 (va_up ad n q) (fun k hk => va_up_ne _ _ (Nat.ne_of_lt hk)) w1
  rwa [va_up_self] at this
theorem r_objI {idx : Nat} {a : Nat} (hl : Cond.methodLink own idx Lib.objectInit ∈ wsL_law) (hin : Cond.instanceMethod Lib.objectInit ∈ wsL_law) (hco : Cond.code Lib.objectInit ⟨#[0xb1]⟩ 1 none ∈ wsL_law) (hR : 1 ≤ R.frames ∧ (rest.map fun v => v.category).sum + 12 ≤ R.locals)
    (G : Gy p m c cc nL s args own D ay A) (hls : ls.size = nL) (hdg : decode cc pc = .ok (.invokespecial idx, 3)) (kk : W p l e R s m args below meth c H locs cells slots Q (F0 m (pc + 3) ls rest)) : W p l e R s m args below meth c H locs cells slots Q (F0 m pc ls (.ref a :: rest)) :=
  W.objInit G.1.1 G.1.2.1 G.1.2.2.2.1 (G.1.2.2.2.2 _ hl) (G.1.2.2.2.2 _ hin) (G.1.2.2.2.2 _ hco) rfl (by show ls.size = _; rw [hls]; exact G.1.2.2.1.symm) rfl hdg hR.1 (by show 2 * 0 + _ + 12 ≤ _; have := hR.2; omega) kk
theorem Wa_uI {c0 k : Nat} {v : Int32} {H1 : Heap} {locs1 : List Loc} {σ1 : hSt} (e1 : σ1 = uI σ c0 k v) (w : Wa D ay K n0 ad0 bb n ad A s σ H locs) (w1 : Wd D ay K n ad A s (uI σ c0 k v) H1 locs1) : Wa D ay K n0 ad0 bb n ad A s σ1 H1 locs1 := by
  subst e1
  exact ⟨w1, w.2.1, w.2.2.1, w.2.2.2.1, w.2.2.2.2⟩
theorem Wa_uJ {c0 k : Nat} {v : Int64} {H1 : Heap} {locs1 : List Loc} {σ1 : hSt} (e1 : σ1 = uJ σ c0 k v) (w : Wa D ay K n0 ad0 bb n ad A s σ H locs) (w1 : Wd D ay K n ad A s (uJ σ c0 k v) H1 locs1) : Wa D ay K n0 ad0 bb n ad A s σ1 H1 locs1 := by
  subst e1
  exact ⟨w1, w.2.1, w.2.2.1, w.2.2.2.1, w.2.2.2.2⟩
theorem Wa_uP {c0 k a : Nat} {H1 : Heap} {locs1 : List Loc} {σ1 : hSt} (e1 : σ1 = uP σ c0 k (some a)) (ha : a < n) (w : Wa D ay K n0 ad0 bb n ad A s σ H locs) (w1 : Wd D ay K n ad A s (uP σ c0 k (some a)) H1 locs1) : Wa D ay K n0 ad0 bb n ad A s σ1 H1 locs1 := by
  subst e1
  refine ⟨w1, w.2.1, w.2.2.1, w.2.2.2.1, fun hb c' k' r h => ?_⟩
  by_cases hck : c' = c0 ∧ k' = k
  · simp [uP, up2, hck] at h
    omega
  · exact w.2.2.2.2 hb c' k' r (by simpa [uP, up2, hck] using h)
theorem Wa_lax {σ1 : hSt} {H1 : Heap} {locs1 : List Loc} (w : Wa D ay K n0 ad0 bb n ad A s σ H locs) (w1 : Wd D ay K n ad A s σ1 H1 locs1) : Wa D ay K n0 ad0 false n ad A s σ1 H1 locs1 := ⟨w1, w.2.1, w.2.2.1, w.2.2.2.1, fun h => by cases h⟩
theorem Wa_same {H1 : Heap} {locs1 : List Loc} (w : Wa D ay K n0 ad0 bb n ad A s σ H locs) (w1 : Wd D ay K n ad A s σ H1 locs1) : Wa D ay K n0 ad0 bb n ad A s σ H1 locs1 := ⟨w1, w.2.1, w.2.2.1, w.2.2.2.1, w.2.2.2.2⟩
/-- a final reference, in a constructor -/
theorem r_putrF {ci k idx N c0 a : Nat} {C : String} {T : u_T} {ty : FieldType} (hC : clsOk ci C T N) (hT : clsTy T N (fty ci)) (hkN : k < N) (hty : fty ci k ≠ .int ∧ fty ci k ≠ .boolean) (hfin : (T k).2.2.2 = true) (hde : (T k).1 = own) (hd : parseFieldDescriptor (T k).2.2.1 = some ty) (hlink : Cond.fieldLink own idx (T k).1 (T k).2.1 (T k).2.2.1 ∈ wsL_law) (hn : ∀ q, narrow ty (.ref q) = .ref q) (hfit : ∀ q, fits ty (.ref q) = true) (hme : meth.name = "<init>")
    (G : Gx p m c cc nL s args own D ay n ad A) (w : Wd D ay K n ad A s σ H locs) (hc : c0 < n) (hk : (K c0).1 = ci) (hdg : decode cc pc = .ok (.putfield idx, 3))
    (kk : ∀ (H1 : Heap) (locs1 : List Loc), Wd D ay K n ad A s (uP σ c0 k (some a)) H1 locs1 → W p l e R s m args below meth c H1 locs1 cells slots Q (F0 m (pc + 3) ls rest)) : W p l e R s m args below meth c H locs cells slots Q (F0 m pc ls (.ref (ad a) :: .ref (ad c0) :: rest)) := by
  obtain ⟨h1, h2, h3, h4⟩ := hC
  refine va_putF (D := D) (A := A) (H0 := s.heap) G.hx G.hb G.hts h3 (fty ci) hT.1 hT.2 G.hown G.2.1 w.1 G.ap w.2 c0 (by rw [wld_get hc, clE_obj hk h1]) h2 k hkN (G.hts _ hlink) (fun _ h9 => h9) hfin hme hde hd (hn _) (hfit _) (by rw [ofl_len, h4]; exact hkN) hdg (fun H1 locs1 hP hD hS => kk H1 locs1 ⟨?_, hS⟩)
  rw [show (Value.ref (ad a)) = va_rf ((some a).map ad) from rfl, ofl_uP hty] at hP
  rwa [wld_set (σ' := uP σ c0 k (some a)) (by rw [clE_obj hk h1]) (fun c' h => uP_oth h)] at hP
/-- a reference into an array of references -/
theorem r_aast {a v ci N : Nat} {C : String} {T : u_T} {i : Int32} (hC : clsOk ci C T N) (hC2 : C = "HillDrums$World") (G : Gx p m c cc nL s args own D ay n ad A) (w : Wd D ay K n ad A s σ H locs) (hc : a < n) (hk : (K a).1 = 105) (hv : v < n) (hkv : (K v).1 = ci) (hi : inb i (K a).2 = true) (hdg : decode cc pc = .ok (.aastore, 1))
    (kk : ∀ (H1 : Heap) (locs1 : List Loc), Wd D ay K n ad A s (uP σ a i.toNatClampNeg (some v)) H1 locs1 → W p l e R s m args below meth c H1 locs1 cells slots Q (F0 m (pc + 1) ls rest)) : W p l e R s m args below meth c H locs cells slots Q (F0 m pc ls (.ref (ad v) :: .int i :: .ref (ad a) :: rest)) := by
  obtain ⟨h1, h2, h3, h4⟩ := hC
  refine va_astq (A := A) (H0 := s.heap) G.hx G.hb G.2.1 w.1 G.ap w.2 a 4 v ci (r := (C, T, N)) (by rw [wld_get hc, clE_ref hk]) (by rw [hC2]; rfl) (by rw [wld_get hv, clE_obj hkv h1]) h2 (inb_in hi) hdg (fun H1 locs1 hP hD hS => kk H1 locs1 ⟨?_, hS⟩)
  rwa [wld_set (σ' := uP σ a i.toNatClampNeg (some v)) (by
    rw [clE_ref hk]
    have : (fun j => ((uP σ a i.toNatClampNeg (some v)).2.2 a j).map ad) = va_up (fun j => (σ.2.2 a j).map ad) i.toNatClampNeg (some (ad v)) := by
      funext j
      by_cases hj : j = i.toNatClampNeg <;> simp [uP, up2, va_up, hj]
    rw [this]) (fun c' h => uP_oth h)] at hP
theorem hPreA.blind {avs : List Value} : FrameBlind (va_Pc avs (hPreA D ay K n ad sz σ)) := fun a U g mk q => by
  obtain ⟨q0, qz, qP, qK, qX⟩ := q
  exact ⟨q0, qz, qP, va_K.moved (u := U) (U := U.calling g mk a) (Vm.Alike.refl U.vm) qK, hX.same (u := U) (U := U.calling g mk a) rfl qX⟩
theorem hPreA.at (G : Gy p m c cc nL s args own D ay A) (w : Wa D ay K n0 ad0 bb n ad A s σ H locs) {U : State} (hU : U.heap = H) (hW : s.WarmedH U.vm) : hPreA D ay K n ad H.size σ U := by
  refine ⟨by rw [hU], by rw [hU]; exact w.1.1, va_K.moved hW.alike G.2.1, ?_⟩
  rw [hU]
  exact (((G.2.2.1.kept w.1.2.2.1).narrow (fun q h => by
    rcases h with ⟨k, hk, rfl⟩ | h
    · exact w.2.2.1 k hk
    · exact G.2.2.2 q (Nat.le_trans w.1.2.1 h)))).warm hW
theorem k_I {y : MethodName} {b : ByteArray} {nL' na f v idx c0 mc ms n' : Nat} {As st : List Value} {σ' : hSt} {b2 : Bool} (h : lkB y b nL' none na) (hyn : y.name = "<init>") (hv : Cond.instanceMethod y ∈ wsL_law) (hl : Cond.methodLink own idx y ∈ wsL_law)
    (hM' : hMA l D ay K n ad H.size y b nL' (rmA f v mc ms) (.ref (ad c0) :: As) σ b2 n' σ' mc ms) (hR : f + 1 ≤ R.frames ∧ 8 + (nL' + 11) + v ≤ R.locals)
    (G : Gy p m c cc nL s args own D ay A) (w : Wa D ay K n0 ad0 bb n ad A s σ H locs) (hn : As.length = na) (hst : st = As.reverse ++ .ref (ad c0) :: rest) (hls : ls.size = nL) (hW : (rest.map fun v => v.category).sum ≤ 8) (hdg : decode cc pc = .ok (.invokespecial idx, 3)) (hf : cells + mc ≤ R.cells ∧ slots + ms ≤ R.slots) :
    va_Run p l e R s m args below meth c H locs cells slots mc ms (F0 m pc ls st) rest (cA D ay K n ad H.size b2 n' σ' (Value.ref (ad c0) :: As).toArray) (aZ n ad H.size) :=
  va_runI (As := As) G.1 hM' ⟨callB_of na G.1.2.2.2.2 (code_good h.1) rfl rfl rfl (G.1.2.2.2.2 _ h.2.1) (G.1.2.2.2.2 _ hl) ⟨h.2.2.1.1, h.2.2.1.2, h.2.2.2⟩ hR, hyn, G.1.2.2.2.2 _ hv⟩ ⟨hPreA.blind, fun U hU hW' => ⟨rfl, hPreA.at G w hU hW'⟩⟩ rfl hn hls hst (lv_room hW) hdg hf
theorem k_IN {y : MethodName} {b : ByteArray} {nL' na f v idx c0 mc ms n' : Nat} {host : String} {As st : List Value} {σ' : hSt} {b2 : Bool} (h : lkB y b nL' none na) (hyn : y.name = "<init>") (hv : Cond.instanceMethod y ∈ wsL_law) (hl : ((own, idx, y, host) : String × Nat × MethodName × String) ∈ nestM)
    (hM' : hMA l D ay K n ad H.size y b nL' (rmA f v mc ms) (.ref (ad c0) :: As) σ b2 n' σ' mc ms) (hR : f + 1 ≤ R.frames ∧ 8 + (nL' + 11) + v ≤ R.locals)
    (G : Gy p m c cc nL s args own D ay A) (w : Wa D ay K n0 ad0 bb n ad A s σ H locs) (hn : As.length = na) (hst : st = As.reverse ++ .ref (ad c0) :: rest) (hls : ls.size = nL) (hW : (rest.map fun v => v.category).sum ≤ 8) (hdg : decode cc pc = .ok (.invokespecial idx, 3)) (hf : cells + mc ≤ R.cells ∧ slots + ms ≤ R.slots) :
    va_Run p l e R s m args below meth c H locs cells slots mc ms (F0 m pc ls st) rest (cA D ay K n ad H.size b2 n' σ' (Value.ref (ad c0) :: As).toArray) (aZ n ad H.size) :=
  va_runIN (As := As) G.1 hM' ⟨va_cnB na G.1.2.2.2.2 (code_good h.1) rfl rfl rfl (G.2.2.1.2.1 _ hl) (G.1.2.2.2.2 _ h.2.1) ⟨h.2.2.1.1, h.2.2.1.2, h.2.2.2⟩ hR, hyn, G.1.2.2.2.2 _ hv⟩ ⟨hPreA.blind, fun U hU hW' => ⟨rfl, hPreA.at G w hU hW'⟩⟩ rfl hn hls hst (lv_room hW) hdg hf
theorem a_A {a : Array Value} {st : List Value} {mc ms n' : Nat} {σ' : hSt} {b2 : Bool} (hr : va_Run p l e R s m args below meth c H locs cells slots mc ms (F0 m pc ls st) rest (cA D ay K n ad H.size b2 n' σ' a) (aZ n ad H.size)) (G : Gy p m c cc nL s args own D ay A) (w : Wa D ay K n0 ad0 bb n ad A s σ H locs)
    (kk : ∀ (H1 : Heap) (locs1 : List Loc) (ad1 : Nat → Nat), (n ≤ n' ∧ ∀ k, k < n → ad1 k = ad k) → Wa D ay K n0 ad0 b2 n' ad1 A s σ' H1 locs1 → W p l e R s m args below meth c H1 locs1 (cells + mc) (slots + ms) Q (F0 m (pc + 3) ls rest)) : W p l e R s m args below meth c H locs cells slots Q (F0 m pc ls st) := by
  have hAz : ∀ q, aZ n ad H.size q → A q := fun q h => by
    rcases h with ⟨k, hk, rfl⟩ | h
    · exact w.2.2.1 k hk
    · exact G.2.2.2 q (Nat.le_trans w.1.2.1 h)
  refine va_callv hr w.1.2 (fun q _ h => hAz q h) hAz (fun u t H1 locs1 ht hvm hp hB hz hk hS => ?_)
  obtain ⟨hP1, hi1, hnew, hR1⟩ := hB
  refine kk H1 locs1 u hp ⟨⟨by rw [← ht]; exact hP1, hS⟩, hi1, fun k hk1 => ?_, ⟨Nat.le_trans w.2.2.2.1.1 hp.1, fun k hk1 => ?_⟩, hR1⟩
  · by_cases h : k < n
    · rw [hp.2 k h]; exact w.2.2.1 k h
    · exact hAz _ (Or.inr (hnew k (by omega) hk1))
  · rw [hp.2 k (Nat.lt_of_lt_of_le hk1 w.2.2.2.1.1)]; exact w.2.2.2.1.2 k hk1
theorem r_vretA {b2 : Bool} {n' : Nat} {σ' : hSt} (hsz : s.heap.size = sz) (G : Gy p m c cc nL s args own D ay (aZ n0 ad0 sz)) (w : Wa D ay K n0 ad0 bb n ad (aZ n0 ad0 sz) s σ H locs) (hm : meth.sig.returnType = none ∧ meth.locks = false ∧ meth.name = "<init>") (hb : b2 = true → bb = true) (hn : n = n') (hs : σ = σ') (hdg : decode cc pc = .ok (.return_, 1)) : W p l e R s m args below meth c H locs cells slots (MQ below (cA D ay K n0 ad0 sz b2 n' σ') args s cells slots (aZ n0 ad0 sz)) (F0 m pc ls []) := by
  subst hs
  subst hn
  refine W.vret G.1.1 G.1.2.1 hm.1 (fun t ht hW => ⟨⟨ad, rfl, ⟨w.2.2.2.1.1, w.2.2.2.1.2⟩, by rw [ht]; exact w.1.1, w.2.1, fun k h1 h2 => ?_, fun h => w.2.2.2.2 (hb h)⟩, w.1.2.F ht⟩) w.1.2.2.2 hdg hm.2.1
  rcases w.2.2.1 k h2 with ⟨k2, h3, h4⟩ | h3
  · rw [← w.2.2.2.1.2 k2 h3] at h4
    have := w.2.1 k2 k (by omega) h2 h4
    omega
  · exact h3
end HA
