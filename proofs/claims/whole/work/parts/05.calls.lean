/-! ===== BASE 4: contracts, their starts and ends, calls ===== -/
def dcn {α : Type} : List α → Nat → Option α
  | [], _ => none
  | a :: _, 0 => some a
  | _ :: l, n + 1 => dcn l n
def dcs (code : ByteArray) (L : List (Nat × Instr × Nat)) : Bool := L.all (fun q => decide (decode code q.1 = .ok q.2))
theorem dcn_mem {α : Type} : ∀ (L : List α) (k : Nat) (a : α), dcn L k = some a → a ∈ L
  | [], _, _, h => by cases h
  | b :: l, 0, a, h => by cases h; exact List.mem_cons_self
  | b :: l, k + 1, a, h => List.mem_cons_of_mem _ (dcn_mem l k a h)
theorem dcs_get {code : ByteArray} {L : List (Nat × Instr × Nat)} (h : dcs code L = true) (k : Nat) {pc len : Nat} {i : Instr} (hk : dcn L k = some (pc, i, len)) : decode code pc = .ok (i, len) := by
  have h1 := List.all_eq_true.mp h _ (dcn_mem L k _ hk)
  simpa using h1
def hPre (D : va_G) (ay : Nat → ClassId) (K : Nat → Nat × Nat) (n : Nat) (ad : Nat → Nat) (σ : hSt) (U : State) : Prop := va_P D vwCl (wld ay K n ad σ) U.heap ∧ va_K D vwCl (tyL ay) U ∧ hX (aN n ad) U U.heap
def cI (D : va_G) (ay : Nat → ClassId) (K : Nat → Nat × Nat) (n : Nat) (ad : Nat → Nat) (r : Int32) (σ : hSt) : Array Value → State → Outcome → State → Prop := va_Qi (fun (r' : Int32) (_ : Unit) => r' = r) (fun _ t => va_P D vwCl (wld ay K n ad σ) t.heap) (aN n ad)
def cJ (D : va_G) (ay : Nat → ClassId) (K : Nat → Nat × Nat) (n : Nat) (ad : Nat → Nat) (r : Int64) (σ : hSt) : Array Value → State → Outcome → State → Prop := va_Ql (fun (r' : Int64) (_ : Unit) => r' = r) (fun _ t => va_P D vwCl (wld ay K n ad σ) t.heap) (aN n ad)
def cV (D : va_G) (ay : Nat → ClassId) (K : Nat → Nat × Nat) (n : Nat) (ad : Nat → Nat) (σ : hSt) : Array Value → State → Outcome → State → Prop := va_Qv (fun (_ : Unit) => True) (fun _ t => va_P D vwCl (wld ay K n ad σ) t.heap) (aN n ad)
abbrev hM (l : Launch) (D : va_G) (ay : Nat → ClassId) (K : Nat → Nat × Nat) (n : Nat) (ad : Nat → Nat) (y : MethodName) (b : ByteArray) (nL : Nat) (ret : Option FieldType) (rm : Room) (avs : List Value) (σ : hSt) (Qc : Array Value → State → Outcome → State → Prop) : Prop :=
  Met l y (Cond.code y b nL ret :: wsL_law) rm (va_Pc avs (hPre D ay K n ad σ)) Qc 0 0 (aN n ad)
abbrev rmK (f v : Nat) : Room := { frames := f, cells := 0, slots := 0, locals := v }
theorem hM_in {l : Launch} {D : va_G} {ay : Nat → ClassId} {K : Nat → Nat × Nat} {n : Nat} {ad : Nat → Nat} {y : MethodName} {b : ByteArray} {nL : Nat} {ret : Option FieldType} {f v : Nat} {avs : List Value} {σ : hSt} {Qc : Array Value → State → Outcome → State → Prop}
    (hy : plainName y.cls = true) (hi : hInj n ad) (hsz : (lg_sl avs).length ≤ nL)
    (body : ∀ (p : Program) (e : Env) (s : State) (m : MethodId) (below : List Frame) (meth : Method) (c : Code), Gx p m c b nL s avs.toArray y.cls D ay n ad (aN n ad) → (meth.sig.returnType = ret ∧ meth.locks = false) → Wd D ay K n ad (aN n ad) s σ s.heap [] → ∀ ls : Array Slot, lv_has ls nL (lv_args 0 avs) → W p l e (rmK f v) s m avs.toArray below meth c s.heap [] 0 0 (MQ below Qc avs.toArray s 0 0 (aN n ad)) (F0 m 0 ls [])) :
    hM l D ay K n ad y b nL ret (rmK f v) avs σ Qc := by
  refine Met.ofW (cc := b) (maxL := nL) (ret := ret) hy rfl ?_
  intro p e s m args below meth c s₁ B hml hv
  obtain ⟨rfl, hP, hK, hX0⟩ := hv
  have hts := atoms_spec (ws := Cond.code y b nL ret :: wsL_law) B.pre
  have hown : s.vm.findClass y.cls = some m.cls := findClass_of_methodNamed B.named
  have hl := lv_entry avs (n := nL) hsz
  rw [lg_entry_eq]
  exact body p e s m below meth c ⟨⟨B.exec, B.bytes, hml, hown, fun w hw => hts w (List.mem_cons_of_mem _ hw)⟩, hK, hi, fun k hk => ⟨k, hk, rfl⟩, hX0⟩ ⟨B.returns, B.notSynchronized⟩ ⟨hP, va_S.rf⟩ _ hl
section HC
variable {p : Program} {l : Launch} {e : Env} {R : Room} {s : State} {m : MethodId} {args : Array Value} {below : List Frame} {meth : Method} {c : Code} {H : Heap} {locs : List Loc} {cells slots : Nat} {Q : State → Prop}
variable {cc : ByteArray} {nL pc : Nat} {ls : Array Slot} {rest : List Value} {D : va_G} {ay : Nat → ClassId} {K : Nat → Nat × Nat} {n : Nat} {ad : Nat → Nat} {A : Nat → Prop} {σ : hSt} {own : String}
theorem r_iret {v : Int32} {σ' : hSt} (G : Gx p m c cc nL s args own D ay n ad (aN n ad)) (w : Wd D ay K n ad (aN n ad) s σ H locs) (hm : meth.sig.returnType = some .int ∧ meth.locks = false) {r : Int32} (he : v = r) (hs : σ = σ') (hdg : decode cc pc = .ok (.ireturn, 1)) : W p l e R s m args below meth c H locs 0 0 (MQ below (cI D ay K n ad r σ') args s 0 0 (aN n ad)) (F0 m pc ls [.int v]) := by
  subst he
  subst hs
  exact W.iret (v := v) G.hx G.hb hm.1 (fun t ht hW => ⟨⟨v, (), rfl, rfl, by dsimp only; rw [ht]; exact w.1⟩, w.2.F ht⟩) w.2.2.2 hdg hm.2
theorem r_zret {v : Int32} {ty : FieldType} {σ' : hSt} (hn : narrow ty (.int v) = .int v) (G : Gx p m c cc nL s args own D ay n ad (aN n ad)) (w : Wd D ay K n ad (aN n ad) s σ H locs) (hm : meth.sig.returnType = some ty ∧ meth.locks = false) {r : Int32} (he : v = r) (hs : σ = σ') (hdg : decode cc pc = .ok (.ireturn, 1)) : W p l e R s m args below meth c H locs 0 0 (MQ below (cI D ay K n ad r σ') args s 0 0 (aN n ad)) (F0 m pc ls [.int v]) := by
  subst he
  subst hs
  exact W.zret (v := v) G.hx G.hb hm.1 hn (fun t ht hW => ⟨⟨v, (), rfl, rfl, by dsimp only; rw [ht]; exact w.1⟩, w.2.F ht⟩) w.2.2.2 hdg hm.2
theorem r_lret {v : Int64} {σ' : hSt} (G : Gx p m c cc nL s args own D ay n ad (aN n ad)) (w : Wd D ay K n ad (aN n ad) s σ H locs) (hm : meth.sig.returnType = some .long ∧ meth.locks = false) {r : Int64} (he : v = r) (hs : σ = σ') (hdg : decode cc pc = .ok (.lreturn, 1)) : W p l e R s m args below meth c H locs 0 0 (MQ below (cJ D ay K n ad r σ') args s 0 0 (aN n ad)) (F0 m pc ls [.long v]) := by
  subst he
  subst hs
  exact W.lret (v := v) G.hx G.hb hm.1 (fun t ht hW => ⟨⟨v, (), rfl, rfl, by dsimp only; rw [ht]; exact w.1⟩, w.2.F ht⟩) w.2.2.2 hdg hm.2
theorem r_vret {σ' : hSt} (G : Gx p m c cc nL s args own D ay n ad (aN n ad)) (w : Wd D ay K n ad (aN n ad) s σ H locs) (hm : meth.sig.returnType = none ∧ meth.locks = false) (hs : σ = σ') (hdg : decode cc pc = .ok (.return_, 1)) : W p l e R s m args below meth c H locs 0 0 (MQ below (cV D ay K n ad σ') args s 0 0 (aN n ad)) (F0 m pc ls []) := by
  subst hs
  exact W.vret G.hx G.hb hm.1 (fun t ht hW => ⟨⟨(), rfl, trivial, by dsimp only; rw [ht]; exact w.1⟩, w.2.F ht⟩) w.2.2.2 hdg hm.2
theorem hPre.blind {avs : List Value} : FrameBlind (va_Pc avs (hPre D ay K n ad σ)) := fun a U g mk q => by
  obtain ⟨q0, qP, qK, qX⟩ := q
  exact ⟨q0, qP, va_K.moved (u := U) (U := U.calling g mk a) (Vm.Alike.refl U.vm) qK, hX.same (u := U) (U := U.calling g mk a) rfl qX⟩
theorem hPre.at (G : Gx p m c cc nL s args own D ay n ad A) (w : Wd D ay K n ad A s σ H locs) {U : State} (hU : U.heap = H) (hW : s.WarmedH U.vm) : hPre D ay K n ad σ U := by
  refine ⟨by rw [hU]; exact w.1, va_K.moved hW.alike G.2.1, ?_⟩
  rw [hU]
  exact (((G.2.2.2.2.kept w.2.2.1).narrow (fun q h => by obtain ⟨k, hk, rfl⟩ := h; exact G.2.2.2.1 k hk))).warm hW
/-- the tables' words of a call -/
def lkB (y : MethodName) (b : ByteArray) (nL' : Nat) (ret : Option FieldType) (na : Nat) : Prop :=
  Cond.code y b nL' ret ∈ wsL_law ∧ Cond.initialized y.cls ∈ wsL_law ∧ (y.cls ≠ "java/lang/invoke/MethodHandle" ∧ y.cls ≠ "java/lang/invoke/VarHandle") ∧ (parseMethodDescriptor y.desc).map (fun d => d.parameters.length) = some na
def lkV (y : MethodName) : Prop := Cond.instanceMethod y ∈ wsL_law ∧ Cond.selects y.cls y y ∈ wsL_law
theorem code_good {w : Cond} (h : w ∈ wsL_law) : GoodIn wsL_law (w :: wsL_law) := fun v hv => by
  rcases List.mem_cons.mp hv with rfl | hv
  · exact wsL_good _ h
  · exact wsL_good _ hv
theorem lkB.callB {y : MethodName} {b : ByteArray} {nL' na f v idx : Nat} {ret : Option FieldType} (h : lkB y b nL' ret na) (hl : Cond.methodLink own idx y ∈ wsL_law) (hR : f + 1 ≤ R.frames ∧ 8 + (nL' + 11) + v ≤ R.locals)
    (G : Gx p m c cc nL s args own D ay n ad A) : CallB R s args own idx y b nL' ret (Cond.code y b nL' ret :: wsL_law) (rmK f v) 0 0 na :=
  callB_of na G.hts (code_good h.1) rfl rfl rfl (G.hts _ h.2.1) (G.hts _ hl) ⟨h.2.2.1.1, h.2.2.1.2, h.2.2.2⟩ hR
theorem lkB.callN {y : MethodName} {b : ByteArray} {nL' na f v idx : Nat} {host : String} {ret : Option FieldType} (h : lkB y b nL' ret na) (hl : ((own, idx, y, host) : String × Nat × MethodName × String) ∈ nestM) (hR : f + 1 ≤ R.frames ∧ 8 + (nL' + 11) + v ≤ R.locals)
    (G : Gx p m c cc nL s args own D ay n ad A) : va_CN R s args own idx y host b nL' ret (Cond.code y b nL' ret :: wsL_law) (rmK f v) 0 0 na :=
  va_cnB na G.hts (code_good h.1) rfl rfl rfl (G.2.2.2.2.2.1 _ hl) (G.hts _ h.2.1) ⟨h.2.2.1.1, h.2.2.1.2, h.2.2.2⟩ hR
theorem k_V {y : MethodName} {b : ByteArray} {nL' na f v idx ci c0 N : Nat} {T : u_T} {ret : Option FieldType} {As st : List Value} {Qc : Array Value → State → Outcome → State → Prop} (hC : clsOk ci y.cls T N) (h : lkB y b nL' ret na) (hv : lkV y) (hl : Cond.methodLink own idx y ∈ wsL_law)
    (hM' : hM l D ay K n ad y b nL' ret (rmK f v) (.ref (ad c0) :: As) σ Qc) (hR : f + 1 ≤ R.frames ∧ 8 + (nL' + 11) + v ≤ R.locals)
    (G : Gx p m c cc nL s args own D ay n ad A) (w : Wd D ay K n ad A s σ H locs) (hc : c0 < n) (hk : (K c0).1 = ci) (hn : As.length = na) (hst : st = As.reverse ++ .ref (ad c0) :: rest) (hls : ls.size = nL) (hW : (rest.map fun v => v.category).sum ≤ 8) (hdg : decode cc pc = .ok (.invokevirtual idx, 3)) (hf : cells + 0 ≤ R.cells ∧ slots + 0 ≤ R.slots) :
    va_Run p l e R s m args below meth c H locs cells slots 0 0 (F0 m pc ls st) rest (Qc (Value.ref (ad c0) :: As).toArray) (aN n ad) := by
  refine va_runV (C := y.cls) (As := As) G.1 hM' ⟨h.callB hl hR G, G.hts _ hv.1, G.hts _ hv.2⟩ ⟨hPre.blind, va_recv G.2.1 w.1 (q0 := c0) hC.2.1 (by rw [wld_get hc, clE_obj hk hC.1]), fun U hU hW' => ⟨rfl, hPre.at G w hU hW'⟩⟩ rfl hn hls hst (lv_room hW) hdg hf
theorem k_VN {y : MethodName} {b : ByteArray} {nL' na f v idx ci c0 N : Nat} {host : String} {T : u_T} {ret : Option FieldType} {As st : List Value} {Qc : Array Value → State → Outcome → State → Prop} (hC : clsOk ci y.cls T N) (h : lkB y b nL' ret na) (hv : lkV y) (hl : ((own, idx, y, host) : String × Nat × MethodName × String) ∈ nestM)
    (hM' : hM l D ay K n ad y b nL' ret (rmK f v) (.ref (ad c0) :: As) σ Qc) (hR : f + 1 ≤ R.frames ∧ 8 + (nL' + 11) + v ≤ R.locals)
    (G : Gx p m c cc nL s args own D ay n ad A) (w : Wd D ay K n ad A s σ H locs) (hc : c0 < n) (hk : (K c0).1 = ci) (hn : As.length = na) (hst : st = As.reverse ++ .ref (ad c0) :: rest) (hls : ls.size = nL) (hW : (rest.map fun v => v.category).sum ≤ 8) (hdg : decode cc pc = .ok (.invokevirtual idx, 3)) (hf : cells + 0 ≤ R.cells ∧ slots + 0 ≤ R.slots) :
    va_Run p l e R s m args below meth c H locs cells slots 0 0 (F0 m pc ls st) rest (Qc (Value.ref (ad c0) :: As).toArray) (aN n ad) := by
  refine va_runVN (C := y.cls) (As := As) G.1 hM' ⟨h.callN hl hR G, G.hts _ hv.1, G.hts _ hv.2⟩ ⟨hPre.blind, va_recv G.2.1 w.1 (q0 := c0) hC.2.1 (by rw [wld_get hc, clE_obj hk hC.1]), fun U hU hW' => ⟨rfl, hPre.at G w hU hW'⟩⟩ rfl hn hls hst (lv_room hW) hdg hf
theorem k_S {y : MethodName} {b : ByteArray} {nL' na f v idx : Nat} {ret : Option FieldType} {As st : List Value} {Qc : Array Value → State → Outcome → State → Prop} (h : lkB y b nL' ret na) (hv : Cond.static y ∈ wsL_law) (hl : Cond.methodLink own idx y ∈ wsL_law)
    (hM' : hM l D ay K n ad y b nL' ret (rmK f v) As σ Qc) (hR : f + 1 ≤ R.frames ∧ 8 + (nL' + 11) + v ≤ R.locals)
    (G : Gx p m c cc nL s args own D ay n ad A) (w : Wd D ay K n ad A s σ H locs) (hn : As.length = na) (hst : st = As.reverse ++ rest) (hls : ls.size = nL) (hW : (rest.map fun v => v.category).sum ≤ 8) (hdg : decode cc pc = .ok (.invokestatic idx, 3)) (hf : cells + 0 ≤ R.cells ∧ slots + 0 ≤ R.slots) :
    va_Run p l e R s m args below meth c H locs cells slots 0 0 (F0 m pc ls st) rest (Qc As.toArray) (aN n ad) := by
  refine va_runS (As := As) G.1 hM' ⟨h.callB hl hR G, G.hts _ hv⟩ ⟨hPre.blind, fun U hU hW' => ⟨rfl, hPre.at G w hU hW'⟩⟩ rfl hn hls hst (lv_room hW) hdg hf
theorem k_SN {y : MethodName} {b : ByteArray} {nL' na f v idx : Nat} {host : String} {ret : Option FieldType} {As st : List Value} {Qc : Array Value → State → Outcome → State → Prop} (h : lkB y b nL' ret na) (hv : Cond.static y ∈ wsL_law) (hl : ((own, idx, y, host) : String × Nat × MethodName × String) ∈ nestM)
    (hM' : hM l D ay K n ad y b nL' ret (rmK f v) As σ Qc) (hR : f + 1 ≤ R.frames ∧ 8 + (nL' + 11) + v ≤ R.locals)
    (G : Gx p m c cc nL s args own D ay n ad A) (w : Wd D ay K n ad A s σ H locs) (hn : As.length = na) (hst : st = As.reverse ++ rest) (hls : ls.size = nL) (hW : (rest.map fun v => v.category).sum ≤ 8) (hdg : decode cc pc = .ok (.invokestatic idx, 3)) (hf : cells + 0 ≤ R.cells ∧ slots + 0 ≤ R.slots) :
    va_Run p l e R s m args below meth c H locs cells slots 0 0 (F0 m pc ls st) rest (Qc As.toArray) (aN n ad) := by
  refine va_runSN (As := As) G.1 hM' ⟨h.callN hl hR G, G.hts _ hv, trivial⟩ ⟨hPre.blind, fun U hU hW' => ⟨rfl, hPre.at G w hU hW'⟩⟩ rfl hn hls hst (lv_room hW) hdg hf
theorem a_i {a : Array Value} {st : List Value} {r1 : Int32} {σ1 : hSt} (hr : va_Run p l e R s m args below meth c H locs cells slots 0 0 (F0 m pc ls st) rest (cI D ay K n ad r1 σ1 a) (aN n ad)) (G : Gx p m c cc nL s args own D ay n ad A) (w : Wd D ay K n ad A s σ H locs)
    (kk : ∀ (H1 : Heap) (locs1 : List Loc), Wd D ay K n ad A s σ1 H1 locs1 → W p l e R s m args below meth c H1 locs1 cells slots Q (F0 m (pc + 3) ls (.int r1 :: rest))) : W p l e R s m args below meth c H locs cells slots Q (F0 m pc ls st) := by
  have hAn : ∀ q, aN n ad q → A q := fun q h => by obtain ⟨k, hk, rfl⟩ := h; exact G.2.2.2.1 k hk
  refine va_calli hr w.2 (fun q _ h => hAn q h) hAn (fun r u t H1 locs1 ht hvm hp hB hz hk hS => ?_)
  subst hp
  exact kk H1 locs1 ⟨by rw [← ht]; exact hB, hS⟩
theorem a_l {a : Array Value} {st : List Value} {r1 : Int64} {σ1 : hSt} (hr : va_Run p l e R s m args below meth c H locs cells slots 0 0 (F0 m pc ls st) rest (cJ D ay K n ad r1 σ1 a) (aN n ad)) (G : Gx p m c cc nL s args own D ay n ad A) (w : Wd D ay K n ad A s σ H locs)
    (kk : ∀ (H1 : Heap) (locs1 : List Loc), Wd D ay K n ad A s σ1 H1 locs1 → W p l e R s m args below meth c H1 locs1 cells slots Q (F0 m (pc + 3) ls (.long r1 :: rest))) : W p l e R s m args below meth c H locs cells slots Q (F0 m pc ls st) := by
  have hAn : ∀ q, aN n ad q → A q := fun q h => by obtain ⟨k, hk, rfl⟩ := h; exact G.2.2.2.1 k hk
  refine va_calll hr w.2 (fun q _ h => hAn q h) hAn (fun r u t H1 locs1 ht hvm hp hB hz hk hS => ?_)
  subst hp
  exact kk H1 locs1 ⟨by rw [← ht]; exact hB, hS⟩
theorem a_v {a : Array Value} {st : List Value} {σ1 : hSt} (hr : va_Run p l e R s m args below meth c H locs cells slots 0 0 (F0 m pc ls st) rest (cV D ay K n ad σ1 a) (aN n ad)) (G : Gx p m c cc nL s args own D ay n ad A) (w : Wd D ay K n ad A s σ H locs)
    (kk : ∀ (H1 : Heap) (locs1 : List Loc), Wd D ay K n ad A s σ1 H1 locs1 → W p l e R s m args below meth c H1 locs1 cells slots Q (F0 m (pc + 3) ls rest)) : W p l e R s m args below meth c H locs cells slots Q (F0 m pc ls st) := by
  have hAn : ∀ q, aN n ad q → A q := fun q h => by obtain ⟨k, hk, rfl⟩ := h; exact G.2.2.2.1 k hk
  refine va_callv hr w.2 (fun q _ h => hAn q h) hAn (fun u t H1 locs1 ht hvm hp hB hz hk hS => ?_)
  exact kk H1 locs1 ⟨by rw [← ht]; exact hB, hS⟩
/-- System.arraycopy of ints -/
def cpOk (sp dp k : Int32) (la lb : Nat) : Bool := decide (¬ sp < 0) && (decide (¬ dp < 0) && (decide (¬ k < 0) && (decide (sp.toNatClampNeg + k.toNatClampNeg ≤ la) && decide (dp.toNatClampNeg + k.toNatClampNeg ≤ lb))))
theorem cpOk_in {sp dp k : Int32} {la lb : Nat} (h : cpOk sp dp k la lb = true) : ¬ sp < 0 ∧ ¬ dp < 0 ∧ ¬ k < 0 ∧ sp.toNatClampNeg + k.toNatClampNeg ≤ la ∧ dp.toNatClampNeg + k.toNatClampNeg ≤ lb := by
  unfold cpOk at h
  simp only [Bool.and_eq_true, decide_eq_true_eq] at h
  exact h
theorem r_copy {a b idx : Nat} {sp dp k : Int32} (hl : Cond.methodLink own idx arraycopyName ∈ wsL_law) (hnat : Cond.native arraycopyName ∈ wsL_law) (hstat : Cond.static arraycopyName ∈ wsL_law) (hini : Cond.initialized "java/lang/System" ∈ wsL_law) (hR : 1 ≤ R.frames ∧ (rest.map fun v => v.category).sum + (nativeFrameWords "java/lang/System" "arraycopy" 5 + 11) ≤ R.locals)
    (G : Gx p m c cc nL s args own D ay n ad A) (w : Wd D ay K n ad A s σ H locs) (ha : a < n) (hka : (K a).1 = 101) (hb : b < n) (hkb : (K b).1 = 101) (hok : cpOk sp dp k (K a).2 (K b).2 = true) (hls : ls.size = nL) (hdg : decode cc pc = .ok (.invokestatic idx, 3))
    (kk : ∀ (H1 : Heap) (locs1 : List Loc), Wd D ay K n ad A s (uA σ b (va_cpy (σ.1 a) (σ.1 b) sp.toNatClampNeg dp.toNatClampNeg k.toNatClampNeg)) H1 locs1 → W p l e R s m args below meth c H1 locs1 cells slots Q (F0 m (pc + 3) ls rest)) : W p l e R s m args below meth c H locs cells slots Q (F0 m pc ls (.int k :: .int dp :: .ref (ad b) :: .int sp :: .ref (ad a) :: rest)) := by
  obtain ⟨h1, h2, h3, h4, h5⟩ := cpOk_in hok
  refine va_copyi (A := A) (H0 := s.heap) G.hx G.hb (by rw [G.hml, hls]) G.hown (G.hts _ hl) (G.hts _ hnat) (G.hts _ hstat) (G.hts _ hini) G.2.1 w.1 G.ap w.2 a b 1 1 (by rw [wld_get ha, clE_int hka (by decide) (by decide) (by decide)]) (by rw [wld_get hb, clE_int hkb (by decide) (by decide) (by decide)]) rfl rfl rfl h1 h2 h3 h4 h5 (fun _ _ => rfl) hR.1 hR.2 hdg (fun H1 locs1 hP hD hS => kk H1 locs1 ⟨?_, hS⟩)
  rwa [wld_set (σ' := uA σ b (va_cpy (σ.1 a) (σ.1 b) sp.toNatClampNeg dp.toNatClampNeg k.toNatClampNeg)) (by rw [clE_int hkb (by decide) (by decide) (by decide)]; simp [uA]) (fun c' h => uA_oth h)] at hP
theorem r_max {idx : Nat} {x y : Int32} (hl : Cond.methodLink own idx Lib.Math.max.name ∈ wsL_law) (hstat : Cond.static Lib.Math.max.name ∈ wsL_law) (hini : Cond.initialized "java/lang/Math" ∈ wsL_law) (hcode : Cond.code Lib.Math.max.name Lib.Math.max.code 2 (some .int) ∈ wsL_law) (hR : 1 ≤ R.frames ∧ (rest.map fun v => v.category).sum + 13 ≤ R.locals) (hf : cells ≤ R.cells ∧ slots ≤ R.slots)
    (G : Gx p m c cc nL s args own D ay n ad A) (hls : ls.size = nL) (hdg : decode cc pc = .ok (.invokestatic idx, 3))
    (kk : W p l e R s m args below meth c H locs cells slots Q (F0 m (pc + 3) ls (.int (if x < y then y else x) :: rest))) : W p l e R s m args below meth c H locs cells slots Q (F0 m pc ls (.int y :: .int x :: rest)) :=
  va_mmax G.hx G.hb (by rw [G.hml, hls]) G.hown (G.hts _ hl) (G.hts _ hstat) (G.hts _ hini) (G.hts _ hcode) hR.1 hR.2 hf.1 hf.2 hdg kk
theorem r_min {idx : Nat} {x y : Int32} (hl : Cond.methodLink own idx Lib.Math.min.name ∈ wsL_law) (hstat : Cond.static Lib.Math.min.name ∈ wsL_law) (hini : Cond.initialized "java/lang/Math" ∈ wsL_law) (hcode : Cond.code Lib.Math.min.name Lib.Math.min.code 2 (some .int) ∈ wsL_law) (hR : 1 ≤ R.frames ∧ (rest.map fun v => v.category).sum + 13 ≤ R.locals) (hf : cells ≤ R.cells ∧ slots ≤ R.slots)
    (G : Gx p m c cc nL s args own D ay n ad A) (hls : ls.size = nL) (hdg : decode cc pc = .ok (.invokestatic idx, 3))
    (kk : W p l e R s m args below meth c H locs cells slots Q (F0 m (pc + 3) ls (.int (if y < x then y else x) :: rest))) : W p l e R s m args below meth c H locs cells slots Q (F0 m pc ls (.int y :: .int x :: rest)) :=
  va_mmin G.hx G.hb (by rw [G.hml, hls]) G.hown (G.hts _ hl) (G.hts _ hstat) (G.hts _ hini) (G.hts _ hcode) hR.1 hR.2 hf.1 hf.2 hdg kk
theorem r_abs {idx : Nat} {x : Int32} (hl : Cond.methodLink own idx Lib.Math.abs.name ∈ wsL_law) (hstat : Cond.static Lib.Math.abs.name ∈ wsL_law) (hini : Cond.initialized "java/lang/Math" ∈ wsL_law) (hcode : Cond.code Lib.Math.abs.name Lib.Math.abs.code 1 (some .int) ∈ wsL_law) (hR : 1 ≤ R.frames ∧ (rest.map fun v => v.category).sum + 13 ≤ R.locals) (hf : cells ≤ R.cells ∧ slots ≤ R.slots)
    (G : Gx p m c cc nL s args own D ay n ad A) (hls : ls.size = nL) (hdg : decode cc pc = .ok (.invokestatic idx, 3))
    (kk : W p l e R s m args below meth c H locs cells slots Q (F0 m (pc + 3) ls (.int (if 0 ≤ x then x else 0 - x) :: rest))) : W p l e R s m args below meth c H locs cells slots Q (F0 m pc ls (.int x :: rest)) :=
  va_mabs G.hx G.hb (by rw [G.hml, hls]) G.hown (G.hts _ hl) (G.hts _ hstat) (G.hts _ hini) (G.hts _ hcode) hR.1 hR.2 hf.1 hf.2 hdg kk
end HC
