/-! ===== the two texts of the class and the JDK's charAt and indexOf over them ===== -/
def wordsAt (k : Nat) : Int32 := (strB.getD 0 []).getD k 0
def isC8 (c : Int32) : Bool := decide (0 ≤ c) && decide (c < 256)
def signsIdx (c : Int32) : Int32 := if c = 59 then 0 else if c = 61 then 1 else if c = 43 then 2 else if c = 45 then 3 else if c = 42 then 4 else if c = 47 then 5 else if c = 60 then 6 else if c = 40 then 7 else if c = 41 then 8 else -1
def hStr (i : Nat) (q : Nat) (s : State) : Prop := vk_R "HillDrums$Tokens" (if i = 0 then 68 else 56) (if i = 0 then strW else strG) q s
/-- the i-th String constant at q, its bytes at t -/
def hSq (i q t : Nat) (A : Nat → Prop) (U : State) (H : Heap) : Prop :=
  va_O "java/lang/String" q A U H ∧ va_OF "java/lang/String" "coder" "B" (.int 0) q A U H ∧ va_OF "java/lang/String" "value" "[B" (.ref t) q A U H ∧ va_T .byte t (strL.getD i 0) (fun j => .int ((strB.getD i []).getD j 0)) A U H
theorem hSq.moved {i q t : Nat} {A : Nat → Prop} {u U : State} {H : Heap} (hvm : u.vm.Alike U.vm) (h : hSq i q t A u H) : hSq i q t A U H := ⟨va_O.moved hvm h.1, va_OF.moved hvm h.2.1, va_OF.moved hvm h.2.2.1, va_T.moved hvm h.2.2.2⟩
theorem hSq.kept {i q t : Nat} {A : Nat → Prop} {U : State} {H H1 : Heap} (h : hSq i q t A U H) (hq : ∀ a : Nat, a < H.size → ¬ A a → H1[a]? = H[a]?) : hSq i q t A U H1 := ⟨h.1.kept hq, h.2.1.kept hq, h.2.2.1.kept hq, h.2.2.2.kept hq⟩
theorem hSq.narrow {i q t : Nat} {A B : Nat → Prop} {U : State} {H : Heap} (h : hSq i q t A U H) (hAB : ∀ q, B q → A q) : hSq i q t B U H := ⟨h.1.narrow hAB, h.2.1.narrow hAB, h.2.2.1.narrow hAB, h.2.2.2.narrow hAB⟩
/-- what the bytes are -/
theorem str_all : ∀ i, i < 2 → (strL.getD i 0 = (strB.getD i []).length ∧ (strB.getD i []).length < 2 ^ 31 ∧ ∀ b ∈ strB.getD i [], b.toInt8.toInt32 = b) := by decide +kernel
theorem str_w : ∀ k, k < 152 → (strB.getD 0 []).getD k 0 &&& 255 = wordsAt k := by decide +kernel
/-- indexOf on what is left of a text, from place k on -/
def str_ixF (c : Int32) : List Int32 → Nat → Int32
  | [], _ => -1
  | b :: l, k => if b &&& 255 = c then nI k else str_ixF c l (k + 1)
theorem str_g : ∀ n, n < 256 → str_ixF (nI n) (strB.getD 1 []) 0 = signsIdx (nI n) := by decide +kernel
abbrev hM2 (l : Launch) (D : va_G) (ay : Nat → ClassId) (K : Nat → Nat × Nat) (n : Nat) (ad : Nat → Nat) (y : MethodName) (b : ByteArray) (nL : Nat) (ret : Option FieldType) (rm : Room) (avs : List Value) (σ : hSt) (i q t : Nat) (Qc : Array Value → State → Outcome → State → Prop) : Prop :=
  Met l y (Cond.code y b nL ret :: wsL_law) rm (va_Pc avs (fun U => hPre D ay K n ad σ U ∧ hSq i q t (aN n ad) U U.heap)) Qc 0 0 (aN n ad)
theorem hM2_in {l : Launch} {D : va_G} {ay : Nat → ClassId} {K : Nat → Nat × Nat} {n : Nat} {ad : Nat → Nat} {y : MethodName} {b : ByteArray} {nL : Nat} {ret : Option FieldType} {f v : Nat} {avs : List Value} {σ : hSt} {i q t : Nat} {Qc : Array Value → State → Outcome → State → Prop}
    (hy : plainName y.cls = true) (hi : hInj n ad) (hsz : (lg_sl avs).length ≤ nL)
    (body : ∀ (p : Program) (e : Env) (s : State) (m : MethodId) (below : List Frame) (meth : Method) (c : Code), Gx p m c b nL s avs.toArray y.cls D ay n ad (aN n ad) → (meth.sig.returnType = ret ∧ meth.locks = false) → hSq i q t (aN n ad) s s.heap → Wd D ay K n ad (aN n ad) s σ s.heap [] → ∀ ls : Array Slot, lv_has ls nL (lv_args 0 avs) → W p l e (rmK f v) s m avs.toArray below meth c s.heap [] 0 0 (MQ below Qc avs.toArray s 0 0 (aN n ad)) (F0 m 0 ls [])) :
    hM2 l D ay K n ad y b nL ret (rmK f v) avs σ i q t Qc := by
  refine Met.ofW (cc := b) (maxL := nL) (ret := ret) hy rfl ?_
  intro p e s m args below meth c s₁ B hml hv
  obtain ⟨rfl, ⟨hP, hK, hX0⟩, hq⟩ := hv
  have hts := atoms_spec (ws := Cond.code y b nL ret :: wsL_law) B.pre
  have hown : s.vm.findClass y.cls = some m.cls := findClass_of_methodNamed B.named
  have hl := lv_entry avs (n := nL) hsz
  rw [lg_entry_eq]
  exact body p e s m below meth c ⟨⟨B.exec, B.bytes, hml, hown, fun w hw => hts w (List.mem_cons_of_mem _ hw)⟩, hK, hi, fun k hk => ⟨k, hk, rfl⟩, hX0⟩ ⟨B.returns, B.notSynchronized⟩ hq ⟨hP, va_S.rf⟩ _ hl
section HS
variable {p : Program} {l : Launch} {e : Env} {R : Room} {s : State} {m : MethodId} {args : Array Value} {below : List Frame} {meth : Method} {c : Code} {H : Heap} {locs : List Loc} {cells slots : Nat} {Q : State → Prop}
variable {cc : ByteArray} {nL pc : Nat} {ls : Array Slot} {rest : List Value} {D : va_G} {ay : Nat → ClassId} {K : Nat → Nat × Nat} {n : Nat} {ad : Nat → Nat} {A : Nat → Prop} {σ : hSt} {own : String} {i q t : Nat}
theorem hPre2.blind {avs : List Value} : FrameBlind (va_Pc avs (fun U => hPre D ay K n ad σ U ∧ hSq i q t (aN n ad) U U.heap)) := fun a U g mk z => by
  obtain ⟨q0, ⟨qP, qK, qX⟩, qS⟩ := z
  exact ⟨q0, ⟨qP, va_K.moved (u := U) (U := U.calling g mk a) (Vm.Alike.refl U.vm) qK, hX.same (u := U) (U := U.calling g mk a) rfl qX⟩, hSq.moved (u := U) (U := U.calling g mk a) (Vm.Alike.refl U.vm) qS⟩
theorem hPre2.at (G : Gx p m c cc nL s args own D ay n ad A) (w : Wd D ay K n ad A s σ H locs) (hs : hSq i q t A s s.heap) {U : State} (hU : U.heap = H) (hW : s.WarmedH U.vm) : hPre D ay K n ad σ U ∧ hSq i q t (aN n ad) U U.heap := by
  refine ⟨hPre.at G w hU hW, ?_⟩
  rw [hU]
  exact hSq.moved hW.alike ((hs.kept w.2.2.1).narrow (fun q h => by obtain ⟨k, hk, rfl⟩ := h; exact G.2.2.2.1 k hk))
theorem k_Vs {y : MethodName} {b : ByteArray} {nL' na f v idx : Nat} {ret : Option FieldType} {As st : List Value} {Qc : Array Value → State → Outcome → State → Prop} (hy : y.cls = "java/lang/String") (h : lkB y b nL' ret na) (hv : lkV y) (hl : Cond.methodLink own idx y ∈ wsL_law)
    (hM' : hM2 l D ay K n ad y b nL' ret (rmK f v) (.ref q :: As) σ i q t Qc) (hR : f + 1 ≤ R.frames ∧ 8 + (nL' + 11) + v ≤ R.locals)
    (G : Gx p m c cc nL s args own D ay n ad A) (w : Wd D ay K n ad A s σ H locs) (hs : hSq i q t A s s.heap) (hn : As.length = na) (hst : st = As.reverse ++ .ref q :: rest) (hls : ls.size = nL) (hW : (rest.map fun v => v.category).sum ≤ 8) (hdg : decode cc pc = .ok (.invokevirtual idx, 3)) (hf : cells + 0 ≤ R.cells ∧ slots + 0 ≤ R.slots) :
    va_Run p l e R s m args below meth c H locs cells slots 0 0 (F0 m pc ls st) rest (Qc (Value.ref q :: As).toArray) (aN n ad) := by
  refine va_runV (C := y.cls) (As := As) G.1 hM' ⟨h.callB hl hR G, G.hts _ hv.1, G.hts _ hv.2⟩ ⟨hPre2.blind, ?_, fun U hU hW' => ⟨rfl, hPre2.at G w hs hU hW'⟩⟩ rfl hn hls hst (lv_room hW) hdg hf
  rw [hy]
  exact va_Orecv hs.1 w.2
theorem k_Ss {y : MethodName} {b : ByteArray} {nL' na f v idx : Nat} {ret : Option FieldType} {As st : List Value} {Qc : Array Value → State → Outcome → State → Prop} (h : lkB y b nL' ret na) (hv : Cond.static y ∈ wsL_law) (hl : Cond.methodLink own idx y ∈ wsL_law)
    (hM' : hM2 l D ay K n ad y b nL' ret (rmK f v) As σ i q t Qc) (hR : f + 1 ≤ R.frames ∧ 8 + (nL' + 11) + v ≤ R.locals)
    (G : Gx p m c cc nL s args own D ay n ad A) (w : Wd D ay K n ad A s σ H locs) (hs : hSq i q t A s s.heap) (hn : As.length = na) (hst : st = As.reverse ++ rest) (hls : ls.size = nL) (hW : (rest.map fun v => v.category).sum ≤ 8) (hdg : decode cc pc = .ok (.invokestatic idx, 3)) (hf : cells + 0 ≤ R.cells ∧ slots + 0 ≤ R.slots) :
    va_Run p l e R s m args below meth c H locs cells slots 0 0 (F0 m pc ls st) rest (Qc As.toArray) (aN n ad) := by
  refine va_runS (As := As) G.1 hM' ⟨h.callB hl hR G, G.hts _ hv⟩ ⟨hPre2.blind, fun U hU hW' => ⟨rfl, hPre2.at G w hs hU hW'⟩⟩ rfl hn hls hst (lv_room hW) hdg hf
end HS
/-! the JDK's methods -/
def DL_J3_ci : List (Nat × Instr × Nat) := [(0, .iload_n 0, 1), (1, .ifCond .lt 8, 3), (4, .iload_n 0, 1), (5, .iload_n 1, 1), (6, .if_icmp .lt 10, 3), (16, .iload_n 0, 1), (17, .ireturn, 1)]
def DL_J0_ci : List (Nat × Instr × Nat) := [(0, .iload_n 0, 1), (1, .iload_n 1, 1), (2, .getstatic 1053, 3), (5, .invokestatic 1059, 3), (8, .pop, 1), (9, .return_, 1)]
def DL_J1_ca : List (Nat × Instr × Nat) := [(0, .iload_n 1, 1), (1, .aload_n 0, 1), (2, .arraylength, 1), (3, .invokestatic 9, 3), (6, .aload_n 0, 1), (7, .iload_n 1, 1), (8, .baload, 1), (9, .sipush 255, 3), (12, .iand, 1), (13, .i2c, 1), (14, .ireturn, 1)]
def DL_J0_il : List (Nat × Instr × Nat) := [(0, .getstatic 38, 3), (3, .ifCond .eq 14, 3), (6, .aload_n 0, 1), (7, .getfield 15, 3), (10, .ifCond .ne 7, 3), (13, .iconst 1, 1), (14, .goto 4, 3), (18, .ireturn, 1)]
def DL_J0_ca : List (Nat × Instr × Nat) := [(0, .aload_n 0, 1), (1, .invokevirtual 492, 3), (4, .ifCond .eq 12, 3), (7, .aload_n 0, 1), (8, .getfield 9, 3), (11, .iload_n 1, 1), (12, .invokestatic 495, 3), (15, .ireturn, 1)]
def DL_J0_co : List (Nat × Instr × Nat) := [(0, .getstatic 38, 3), (3, .ifCond .eq 10, 3), (6, .aload_n 0, 1), (7, .getfield 15, 3), (10, .goto 4, 3), (14, .ireturn, 1)]
def DL_J0_le : List (Nat × Instr × Nat) := [(0, .aload_n 0, 1), (1, .getfield 9, 3), (4, .arraylength, 1), (5, .aload_n 0, 1), (6, .invokevirtual 335, 3), (9, .ishr, 1), (10, .ireturn, 1)]
def DL_J1_ce : List (Nat × Instr × Nat) := [(0, .iload_n 0, 1), (1, .ifCond .lt 14, 3), (4, .iload_n 0, 1), (5, .sipush 255, 3), (8, .if_icmp .gt 7, 3), (11, .iconst 1, 1), (12, .goto 4, 3), (16, .ireturn, 1)]
def DL_J1_ic : List (Nat × Instr × Nat) := [(0, .iload_n 1, 1), (1, .i2b, 1), (2, .istore 4, 2), (4, .iload_n 2, 1), (5, .istore 5, 2), (7, .iload 5, 2), (9, .iload_n 3, 1), (10, .if_icmp .ge 21, 3), (13, .aload_n 0, 1), (14, .iload 5, 2), (16, .baload, 1), (17, .iload 4, 2), (19, .if_icmp .ne 6, 3), (22, .iload 5, 2), (24, .ireturn, 1), (25, .iinc 5 1, 3), (28, .goto (-21), 3), (31, .iconst (-1), 1), (32, .ireturn, 1)]
def DL_J1_io : List (Nat × Instr × Nat) := [(0, .iload_n 1, 1), (1, .invokestatic 88, 3), (4, .ifCond .ne 5, 3), (9, .iload_n 2, 1), (10, .iconst 0, 1), (11, .invokestatic 92, 3), (14, .istore_n 2, 1), (15, .iload_n 3, 1), (16, .aload_n 0, 1), (17, .arraylength, 1), (18, .invokestatic 38, 3), (21, .istore_n 3, 1), (22, .iload_n 2, 1), (23, .iload_n 3, 1), (24, .if_icmp .lt 5, 3), (29, .aload_n 0, 1), (30, .iload_n 1, 1), (31, .iload_n 2, 1), (32, .iload_n 3, 1), (33, .invokestatic 95, 3), (36, .ireturn, 1)]
def DL_J0_i2 : List (Nat × Instr × Nat) := [(0, .aload_n 0, 1), (1, .invokevirtual 492, 3), (4, .ifCond .eq 19, 3), (7, .aload_n 0, 1), (8, .getfield 9, 3), (11, .iload_n 1, 1), (12, .iload_n 2, 1), (13, .aload_n 0, 1), (14, .invokevirtual 505, 3), (17, .invokestatic 637, 3), (20, .goto 16, 3), (36, .ireturn, 1)]
def DL_J0_i1 : List (Nat × Instr × Nat) := [(0, .aload_n 0, 1), (1, .iload_n 1, 1), (2, .iconst 0, 1), (3, .invokevirtual 633, 3), (6, .ireturn, 1)]
theorem dec_J3_ci : dcs cJ3_checkIndex_8e157 DL_J3_ci = true := by decide +kernel
theorem dec_J0_ci : dcs cJ0_checkIndex_df160 DL_J0_ci = true := by decide +kernel
theorem dec_J1_ca : dcs cJ1_charAt_3b067 DL_J1_ca = true := by decide +kernel
theorem dec_J0_il : dcs cJ0_isLatin1_aae02 DL_J0_il = true := by decide +kernel
theorem dec_J0_ca : dcs cJ0_charAt_5068e DL_J0_ca = true := by decide +kernel
theorem dec_J0_co : dcs prog_18_method_152_code DL_J0_co = true := by decide +kernel
theorem dec_J0_le : dcs prog_18_method_54_code DL_J0_le = true := by decide +kernel
theorem dec_J1_ce : dcs prog_19_method_4_code DL_J1_ce = true := by decide +kernel
theorem dec_J1_ic : dcs cJ1_indexOfChar_4cfef DL_J1_ic = true := by decide +kernel
theorem dec_J1_io : dcs cJ1_indexOf_4cfef DL_J1_io = true := by decide +kernel
theorem dec_J0_i2 : dcs cJ0_indexOf_7cf53 DL_J0_i2 = true := by decide +kernel
theorem dec_J0_i1 : dcs cJ0_indexOf_0f7a4 DL_J0_i1 = true := by decide +kernel
def yJ_co : MethodName := ⟨"java/lang/String", "coder", "()B"⟩
def yJ_le : MethodName := ⟨"java/lang/String", "length", "()I"⟩
def yJ_ce : MethodName := ⟨"java/lang/StringLatin1", "canEncode", "(I)Z"⟩
theorem lb_J3_ci : lkB yJ3_checkIndex_8e157 cJ3_checkIndex_8e157 3 (some .int) 3 := ⟨q_502, q_17, ⟨by decide, by decide⟩, by decide +kernel⟩
theorem lb_J0_ci : lkB yJ0_checkIndex_df160 cJ0_checkIndex_df160 2 none 2 := ⟨q_497, q_15, ⟨by decide, by decide⟩, by decide +kernel⟩
theorem lb_J1_ca : lkB yJ1_charAt_3b067 cJ1_charAt_3b067 2 (some .char) 2 := ⟨q_494, q_16, ⟨by decide, by decide⟩, by decide +kernel⟩
theorem lb_J0_il : lkB yJ0_isLatin1_aae02 cJ0_isLatin1_aae02 1 (some .boolean) 0 := ⟨q_489, q_15, ⟨by decide, by decide⟩, by decide +kernel⟩
theorem lb_J0_ca : lkB yJ0_charAt_5068e cJ0_charAt_5068e 2 (some .char) 1 := ⟨q_485, q_15, ⟨by decide, by decide⟩, by decide +kernel⟩
theorem lb_J0_co : lkB yJ_co prog_18_method_152_code 1 (some .byte) 0 := ⟨q_546, q_15, ⟨by decide, by decide⟩, by decide +kernel⟩
theorem lb_J0_le : lkB yJ_le prog_18_method_54_code 1 (some .int) 0 := ⟨q_542, q_15, ⟨by decide, by decide⟩, by decide +kernel⟩
theorem lb_J1_ce : lkB yJ_ce prog_19_method_4_code 1 (some .boolean) 1 := ⟨q_552, q_16, ⟨by decide, by decide⟩, by decide +kernel⟩
theorem lb_J1_ic : lkB yJ1_indexOfChar_4cfef cJ1_indexOfChar_4cfef 6 (some .int) 4 := ⟨q_561, q_16, ⟨by decide, by decide⟩, by decide +kernel⟩
theorem lb_J1_io : lkB yJ1_indexOf_4cfef cJ1_indexOf_4cfef 4 (some .int) 4 := ⟨q_549, q_16, ⟨by decide, by decide⟩, by decide +kernel⟩
theorem lb_J0_i2 : lkB yJ0_indexOf_7cf53 cJ0_indexOf_7cf53 3 (some .int) 2 := ⟨q_538, q_15, ⟨by decide, by decide⟩, by decide +kernel⟩
theorem lb_J0_i1 : lkB yJ0_indexOf_0f7a4 cJ0_indexOf_0f7a4 2 (some .int) 1 := ⟨q_534, q_15, ⟨by decide, by decide⟩, by decide +kernel⟩
section HJ
variable {l : Launch} {D : va_G} {ay : Nat → ClassId} {K : Nat → Nat × Nat} {n : Nat} {ad : Nat → Nat} {σ : hSt} {i q t : Nat}
theorem C_J3_ci (hi : hInj n ad) {k N : Nat} {rv : Value} (hk : k < N) (hN : N < 2 ^ 31) (hv : rv = .null ∨ ∃ z, rv = .ref z) : hM l D ay K n ad yJ3_checkIndex_8e157 cJ3_checkIndex_8e157 3 (some .int) (rmK 0 0) [.int (nI k), .int (nI N), rv] σ (cI D ay K n ad (nI k) σ) := by
  have main : ∀ rv : Value, (lg_sl [.int (nI k), .int (nI N), rv]).length ≤ 3 → hM l D ay K n ad yJ3_checkIndex_8e157 cJ3_checkIndex_8e157 3 (some .int) (rmK 0 0) [.int (nI k), .int (nI N), rv] σ (cI D ay K n ad (nI k) σ) := by
    intro rv h3
    refine hM_in (by decide) hi h3 (fun p e s m below meth c G hm w ls hl => ?_)
    refine lv_iload_n G.hx G.hb (dcs_get dec_J3_ci 0 rfl) rfl (lv_at hl 0 rfl) ?_
    refine lv_if_lt (tgt := 9) G.hx G.hb (dcs_get dec_J3_ci 1 rfl) (by decide) (fun hc => absurd hc (nI_pos (by omega))) (fun hc => ?_)
    refine lv_iload_n G.hx G.hb (dcs_get dec_J3_ci 2 rfl) rfl (lv_at hl 0 rfl) ?_
    refine lv_iload_n G.hx G.hb (dcs_get dec_J3_ci 3 rfl) rfl (lv_at hl 1 rfl) ?_
    refine lv_icmp_lt (tgt := 16) G.hx G.hb (dcs_get dec_J3_ci 4 rfl) (by decide) (fun hc => ?_) (fun hc => absurd (nI_lt hk hN) hc)
    refine lv_iload_n G.hx G.hb (dcs_get dec_J3_ci 5 rfl) rfl (lv_at hl 0 rfl) ?_
    exact r_iret G w hm rfl rfl (dcs_get dec_J3_ci 6 rfl)
  rcases hv with rfl | ⟨z, rfl⟩
  · exact main .null (Nat.le_of_ble_eq_true rfl)
  · exact main (.ref z) (Nat.le_of_ble_eq_true rfl)
theorem C_J0_ci (hi : hInj n ad) {k N : Nat} (hk : k < N) (hN : N < 2 ^ 31) : hM l D ay K n ad yJ0_checkIndex_df160 cJ0_checkIndex_df160 2 none (rmK 1 30) [.int (nI k), .int (nI N)] σ (cV D ay K n ad σ) := by
  refine hM_in (by decide) hi (Nat.le_of_ble_eq_true rfl) (fun p e s m below meth c G hm w ls hl => ?_)
  refine lv_iload_n G.hx G.hb (dcs_get dec_J0_ci 0 rfl) rfl (lv_at hl 0 rfl) ?_
  refine lv_iload_n G.hx G.hb (dcs_get dec_J0_ci 1 rfl) rfl (lv_at hl 1 rfl) ?_
  have hZ := G.2.2.2.2.2.2.2.2.1
  rcases hZ with hZ | ⟨z, hZ⟩
  · refine va_gets G.hx G.hb hZ w.2 G.hown (G.hts _ q_498) (fun _ h => h) (dcs_get dec_J0_ci 2 rfl) ?_
    refine a_i (k_S (As := [.int (nI k), .int (nI N), .null]) (rest := []) lb_J3_ci q_501 q_500 (C_J3_ci G.2.2.1 hk hN (Or.inl rfl)) ⟨(Nat.le_of_ble_eq_true rfl), (Nat.le_of_ble_eq_true rfl)⟩ G w rfl rfl hl.1 (Nat.le_of_ble_eq_true rfl) (dcs_get dec_J0_ci 3 rfl) ⟨Nat.le_refl _, Nat.le_refl _⟩) G w (fun H locs w => ?_)
    refine lv_pop G.hx G.hb (dcs_get dec_J0_ci 4 rfl) rfl ?_
    exact r_vret G w hm rfl (dcs_get dec_J0_ci 5 rfl)
  · refine va_gets G.hx G.hb hZ w.2 G.hown (G.hts _ q_498) (fun _ h => h) (dcs_get dec_J0_ci 2 rfl) ?_
    refine a_i (k_S (As := [.int (nI k), .int (nI N), .ref z]) (rest := []) lb_J3_ci q_501 q_500 (C_J3_ci G.2.2.1 hk hN (Or.inr ⟨z, rfl⟩)) ⟨(Nat.le_of_ble_eq_true rfl), (Nat.le_of_ble_eq_true rfl)⟩ G w rfl rfl hl.1 (Nat.le_of_ble_eq_true rfl) (dcs_get dec_J0_ci 3 rfl) ⟨Nat.le_refl _, Nat.le_refl _⟩) G w (fun H locs w => ?_)
    refine lv_pop G.hx G.hb (dcs_get dec_J0_ci 4 rfl) rfl ?_
    exact r_vret G w hm rfl (dcs_get dec_J0_ci 5 rfl)
theorem C_J1_ca (hi : hInj n ad) (h2 : i < 2) {k : Nat} (hk : k < strL.getD i 0) : hM2 l D ay K n ad yJ1_charAt_3b067 cJ1_charAt_3b067 2 (some .char) (rmK 2 60) [.ref t, .int (nI k)] σ i q t (cI D ay K n ad ((strB.getD i []).getD k 0 &&& 255) σ) := by
  have hL := (str_all i h2).1
  have hL2 := (str_all i h2).2.1
  refine hM2_in (by decide) hi (Nat.le_of_ble_eq_true rfl) (fun p e s m below meth c G hm hs w ls hl => ?_)
  refine lv_iload_n G.hx G.hb (dcs_get dec_J1_ca 0 rfl) rfl (lv_at hl 1 rfl) ?_
  refine lv_aload_n G.hx G.hb (dcs_get dec_J1_ca 1 rfl) rfl (lv_at hl 0 rfl) ?_
  refine va_tlen (v := nI (strL.getD i 0)) G.hx G.hb hs.2.2.2 w.2 rfl (dcs_get dec_J1_ca 2 rfl) ?_
  refine a_v (k_S (As := [.int (nI k), .int (nI (strL.getD i 0))]) (rest := []) lb_J0_ci q_496 q_495 (C_J0_ci G.2.2.1 hk (by omega)) ⟨(Nat.le_of_ble_eq_true rfl), (Nat.le_of_ble_eq_true rfl)⟩ G w rfl rfl hl.1 (Nat.le_of_ble_eq_true rfl) (dcs_get dec_J1_ca 3 rfl) ⟨Nat.le_refl _, Nat.le_refl _⟩) G w (fun H locs w => ?_)
  refine lv_aload_n G.hx G.hb (dcs_get dec_J1_ca 4 rfl) rfl (lv_at hl 0 rfl) ?_
  refine lv_iload_n G.hx G.hb (dcs_get dec_J1_ca 5 rfl) rfl (lv_at hl 1 rfl) ?_
  refine va_tb G.hx G.hb hs.2.2.2 w.2 (vp_in_nI hk (by omega)) (v := .int ((strB.getD i []).getD k 0)) (by rw [nI_clamp (by omega)]) (dcs_get dec_J1_ca 6 rfl) ?_
  refine lv_sipush (v := (255 : Int32)) G.hx G.hb (dcs_get dec_J1_ca 7 rfl) (by decide) ?_
  refine lv_iand G.hx G.hb (dcs_get dec_J1_ca 8 rfl) ?_
  refine lv_i2c G.hx G.hb (dcs_get dec_J1_ca 9 rfl) (sc_c2 _) ?_
  exact r_zret (sc_nar _) G w hm rfl rfl (dcs_get dec_J1_ca 10 rfl)
theorem C_J0_il (hi : hInj n ad) : hM2 l D ay K n ad yJ0_isLatin1_aae02 cJ0_isLatin1_aae02 1 (some .boolean) (rmK 0 0) [.ref q] σ i q t (cI D ay K n ad 1 σ) := by
  refine hM2_in (by decide) hi (Nat.le_of_ble_eq_true rfl) (fun p e s m below meth c G hm hs w ls hl => ?_)
  refine va_gets G.hx G.hb G.2.2.2.2.2.2.2.1 w.2 G.hown (G.hts _ q_490) (fun _ h => h) (dcs_get dec_J0_il 0 rfl) ?_
  refine lv_if_eq (tgt := 17) G.hx G.hb (dcs_get dec_J0_il 1 rfl) (by decide) (fun hc => absurd hc (by decide)) (fun hc => ?_)
  refine lv_aload_n G.hx G.hb (dcs_get dec_J0_il 2 rfl) rfl (lv_at hl 0 rfl) ?_
  refine vk_getf G.hx G.hb hs.2.1 w.2 G.hown (G.hts _ q_1575) (fun _ h => h) (dcs_get dec_J0_il 3 rfl) ?_
  refine lv_if_ne (tgt := 17) G.hx G.hb (dcs_get dec_J0_il 4 rfl) (by decide) (fun hc => absurd rfl hc) (fun hc => ?_)
  refine lv_iconst (v := (1 : Int32)) G.hx G.hb (dcs_get dec_J0_il 5 rfl) (by decide) ?_
  refine lv_goto (tgt := 18) G.hx G.hb (dcs_get dec_J0_il 6 rfl) (by decide) ?_
  exact r_zret (by decide) G w hm rfl rfl (dcs_get dec_J0_il 7 rfl)
theorem lv_J0_il : lkV yJ0_isLatin1_aae02 := ⟨q_487, q_488⟩
theorem C_J0_ca (hi : hInj n ad) (h2 : i < 2) {k : Nat} (hk : k < strL.getD i 0) : hM2 l D ay K n ad yJ0_charAt_5068e cJ0_charAt_5068e 2 (some .char) (rmK 3 100) [.ref q, .int (nI k)] σ i q t (cI D ay K n ad ((strB.getD i []).getD k 0 &&& 255) σ) := by
  refine hM2_in (by decide) hi (Nat.le_of_ble_eq_true rfl) (fun p e s m below meth c G hm hs w ls hl => ?_)
  refine lv_aload_n G.hx G.hb (dcs_get dec_J0_ca 0 rfl) rfl (lv_at hl 0 rfl) ?_
  refine a_i (k_Vs (As := []) (rest := []) rfl lb_J0_il lv_J0_il q_486 (C_J0_il G.2.2.1) ⟨(Nat.le_of_ble_eq_true rfl), (Nat.le_of_ble_eq_true rfl)⟩ G w hs rfl rfl hl.1 (Nat.le_of_ble_eq_true rfl) (dcs_get dec_J0_ca 1 rfl) ⟨Nat.le_refl _, Nat.le_refl _⟩) G w (fun H locs w => ?_)
  refine lv_if_eq (tgt := 16) G.hx G.hb (dcs_get dec_J0_ca 2 rfl) (by decide) (fun hc => absurd hc (by decide)) (fun hc => ?_)
  refine lv_aload_n G.hx G.hb (dcs_get dec_J0_ca 3 rfl) rfl (lv_at hl 0 rfl) ?_
  refine vk_getf G.hx G.hb hs.2.2.1 w.2 G.hown (G.hts _ q_1576) (fun _ h => h) (dcs_get dec_J0_ca 4 rfl) ?_
  refine lv_iload_n G.hx G.hb (dcs_get dec_J0_ca 5 rfl) rfl (lv_at hl 1 rfl) ?_
  refine a_i (k_Ss (As := [.ref t, .int (nI k)]) (rest := []) lb_J1_ca q_493 q_492 (C_J1_ca G.2.2.1 h2 hk) ⟨(Nat.le_of_ble_eq_true rfl), (Nat.le_of_ble_eq_true rfl)⟩ G w hs rfl rfl hl.1 (Nat.le_of_ble_eq_true rfl) (dcs_get dec_J0_ca 6 rfl) ⟨Nat.le_refl _, Nat.le_refl _⟩) G w (fun H locs w => ?_)
  exact r_zret (sc_nar _) G w hm rfl rfl (dcs_get dec_J0_ca 7 rfl)
theorem C_J0_co (hi : hInj n ad) : hM2 l D ay K n ad yJ_co prog_18_method_152_code 1 (some .byte) (rmK 0 0) [.ref q] σ i q t (cI D ay K n ad 0 σ) := by
  refine hM2_in (by decide) hi (Nat.le_of_ble_eq_true rfl) (fun p e s m below meth c G hm hs w ls hl => ?_)
  refine va_gets G.hx G.hb G.2.2.2.2.2.2.2.1 w.2 G.hown (G.hts _ q_490) (fun _ h => h) (dcs_get dec_J0_co 0 rfl) ?_
  refine lv_if_eq (tgt := 13) G.hx G.hb (dcs_get dec_J0_co 1 rfl) (by decide) (fun hc => absurd hc (by decide)) (fun hc => ?_)
  refine lv_aload_n G.hx G.hb (dcs_get dec_J0_co 2 rfl) rfl (lv_at hl 0 rfl) ?_
  refine vk_getf G.hx G.hb hs.2.1 w.2 G.hown (G.hts _ q_1575) (fun _ h => h) (dcs_get dec_J0_co 3 rfl) ?_
  refine lv_goto (tgt := 14) G.hx G.hb (dcs_get dec_J0_co 4 rfl) (by decide) ?_
  exact r_zret (by decide) G w hm rfl rfl (dcs_get dec_J0_co 5 rfl)
theorem lv_J0_co : lkV yJ_co := ⟨q_544, q_545⟩
theorem C_J0_le (hi : hInj n ad) (h2 : i < 2) : hM2 l D ay K n ad yJ_le prog_18_method_54_code 1 (some .int) (rmK 1 30) [.ref q] σ i q t (cI D ay K n ad (nI (strL.getD i 0)) σ) := by
  have hL := (str_all i h2).1
  have hL2 := (str_all i h2).2.1
  refine hM2_in (by decide) hi (Nat.le_of_ble_eq_true rfl) (fun p e s m below meth c G hm hs w ls hl => ?_)
  refine lv_aload_n G.hx G.hb (dcs_get dec_J0_le 0 rfl) rfl (lv_at hl 0 rfl) ?_
  refine vk_getf G.hx G.hb hs.2.2.1 w.2 G.hown (G.hts _ q_1576) (fun _ h => h) (dcs_get dec_J0_le 1 rfl) ?_
  refine va_tlen (v := nI (strL.getD i 0)) G.hx G.hb hs.2.2.2 w.2 rfl (dcs_get dec_J0_le 2 rfl) ?_
  refine lv_aload_n G.hx G.hb (dcs_get dec_J0_le 3 rfl) rfl (lv_at hl 0 rfl) ?_
  refine a_i (k_Vs (As := []) (rest := [.int (nI (strL.getD i 0))]) rfl lb_J0_co lv_J0_co q_543 (C_J0_co G.2.2.1) ⟨(Nat.le_of_ble_eq_true rfl), (Nat.le_of_ble_eq_true rfl)⟩ G w hs rfl rfl hl.1 (Nat.le_of_ble_eq_true rfl) (dcs_get dec_J0_le 4 rfl) ⟨Nat.le_refl _, Nat.le_refl _⟩) G w (fun H locs w => ?_)
  refine lv_ishr G.hx G.hb (dcs_get dec_J0_le 5 rfl) ?_
  exact r_iret G w hm (sc_shr0 (by omega)) rfl (dcs_get dec_J0_le 6 rfl)
theorem lv_J0_le : lkV yJ_le := ⟨q_540, q_541⟩
theorem C_J1_ce (hi : hInj n ad) {k : Nat} (hk : k < 256) : hM l D ay K n ad yJ_ce prog_19_method_4_code 1 (some .boolean) (rmK 0 0) [.int (nI k)] σ (cI D ay K n ad 1 σ) := by
  refine hM_in (by decide) hi (Nat.le_of_ble_eq_true rfl) (fun p e s m below meth c G hm w ls hl => ?_)
  refine lv_iload_n G.hx G.hb (dcs_get dec_J1_ce 0 rfl) rfl (lv_at hl 0 rfl) ?_
  refine lv_if_lt (tgt := 15) G.hx G.hb (dcs_get dec_J1_ce 1 rfl) (by decide) (fun hc => absurd hc (nI_pos (by omega))) (fun hc => ?_)
  refine lv_iload_n G.hx G.hb (dcs_get dec_J1_ce 2 rfl) rfl (lv_at hl 0 rfl) ?_
  refine lv_sipush (v := (255 : Int32)) G.hx G.hb (dcs_get dec_J1_ce 3 rfl) (by decide) ?_
  refine lv_icmp_gt (tgt := 15) G.hx G.hb (dcs_get dec_J1_ce 4 rfl) (by decide) (fun hc => absurd hc (nI_nlt (a := 255) (by omega) (by decide))) (fun hc => ?_)
  refine lv_iconst (v := (1 : Int32)) G.hx G.hb (dcs_get dec_J1_ce 5 rfl) (by decide) ?_
  refine lv_goto (tgt := 16) G.hx G.hb (dcs_get dec_J1_ce 6 rfl) (by decide) ?_
  exact r_zret (by decide) G w hm rfl rfl (dcs_get dec_J1_ce 7 rfl)
theorem C_J1_ic (hi : hInj n ad) (h2 : i < 2) {k : Nat} (hk : k < 256) : hM2 l D ay K n ad yJ1_indexOfChar_4cfef cJ1_indexOfChar_4cfef 6 (some .int) (rmK 0 0) [.ref t, .int (nI k), .int 0, .int (nI (strL.getD i 0))] σ i q t (cI D ay K n ad (str_ixF (nI k) (strB.getD i []) 0) σ) := by
  obtain ⟨hL, hL2, hb⟩ := str_all i h2
  refine hM2_in (by decide) hi (Nat.le_of_ble_eq_true rfl) (fun p e s m below meth c G hm hs w ls hl => ?_)
  refine lv_iload_n G.hx G.hb (dcs_get dec_J1_ic 0 rfl) rfl (lv_at hl 1 rfl) ?_
  refine lv_i2b G.hx G.hb (dcs_get dec_J1_ic 1 rfl) rfl ?_
  refine lv_istore (lv' := [(4, .int (nI k).toInt8.toInt32), (0, .ref t), (1, .int (nI k)), (2, .int 0), (3, .int (nI (strL.getD i 0)))]) G.hx G.hb (dcs_get dec_J1_ic 2 rfl) hl (by decide) rfl (fun ls hl => ?_)
  refine lv_iload_n G.hx G.hb (dcs_get dec_J1_ic 3 rfl) rfl (lv_at hl 3 rfl) ?_
  refine lv_istore (lv' := [(5, .int 0), (4, .int (nI k).toInt8.toInt32), (0, .ref t), (1, .int (nI k)), (2, .int 0), (3, .int (nI (strL.getD i 0)))]) G.hx G.hb (dcs_get dec_J1_ic 4 rfl) hl (by decide) rfl (fun ls hl => ?_)
  have loop : ∀ (L : List Int32) (j : Nat) (ls : Array Slot), j ≤ strL.getD i 0 → (strB.getD i []).drop j = L → str_ixF (nI k) (strB.getD i []) 0 = str_ixF (nI k) L j → lv_has ls 6 [(5, .int (nI j)), (4, .int (nI k).toInt8.toInt32), (0, .ref t), (1, .int (nI k)), (2, .int 0), (3, .int (nI (strL.getD i 0)))] →
      W p l e (rmK 0 0) s m [.ref t, .int (nI k), .int 0, .int (nI (strL.getD i 0))].toArray below meth c s.heap [] 0 0 (MQ below (cI D ay K n ad (str_ixF (nI k) (strB.getD i []) 0) σ) [.ref t, .int (nI k), .int 0, .int (nI (strL.getD i 0))].toArray s 0 0 (aN n ad)) (F0 m 7 ls []) := by
    intro L
    induction L with
    | nil =>
      intro j ls hj e he hl
      have q : (strB.getD i []).length ≤ j := List.drop_eq_nil_iff.mp e
      refine lv_iload G.hx G.hb (dcs_get dec_J1_ic 5 rfl) (lv_at hl 0 rfl) ?_
      refine lv_iload_n G.hx G.hb (dcs_get dec_J1_ic 6 rfl) rfl (lv_at hl 5 rfl) ?_
      refine lv_icmp_ge (tgt := 31) G.hx G.hb (dcs_get dec_J1_ic 7 rfl) (by decide) (fun hc => ?_) (fun hc => absurd (nI_le (show strL.getD i 0 ≤ j by omega) (by omega)) hc)
      refine lv_iconst (v := (-1 : Int32)) G.hx G.hb (dcs_get dec_J1_ic 17 rfl) (by decide) ?_
      exact r_iret G w hm he.symm rfl (dcs_get dec_J1_ic 18 rfl)
    | cons b L ih =>
      intro j ls hj e he hl
      obtain ⟨h1, h3, h4, h5⟩ := sc_dropC e
      refine lv_iload G.hx G.hb (dcs_get dec_J1_ic 5 rfl) (lv_at hl 0 rfl) ?_
      refine lv_iload_n G.hx G.hb (dcs_get dec_J1_ic 6 rfl) rfl (lv_at hl 5 rfl) ?_
      refine lv_icmp_ge (tgt := 31) G.hx G.hb (dcs_get dec_J1_ic 7 rfl) (by decide) (fun hc => absurd hc (nI_ge (by omega) (by omega))) (fun hc => ?_)
      refine lv_aload_n G.hx G.hb (dcs_get dec_J1_ic 8 rfl) rfl (lv_at hl 2 rfl) ?_
      refine lv_iload G.hx G.hb (dcs_get dec_J1_ic 9 rfl) (lv_at hl 0 rfl) ?_
      refine va_tb G.hx G.hb hs.2.2.2 w.2 (vp_in_nI (by omega) (by omega)) (v := .int b) (by rw [nI_clamp (by omega), h3]) (dcs_get dec_J1_ic 10 rfl) ?_
      refine lv_iload G.hx G.hb (dcs_get dec_J1_ic 11 rfl) (lv_at hl 1 rfl) ?_
      rw [str_ixF] at he
      refine lv_icmp_ne (tgt := 25) G.hx G.hb (dcs_get dec_J1_ic 12 rfl) (by decide) (fun hc => ?_) (fun hc => ?_)
      · rw [if_neg (fun z => hc ((sc_eq (hb b h5) hk).mpr z))] at he
        refine lv_iinc (v := nI (j + 1)) (lv' := [(5, .int (nI (j + 1))), (4, .int (nI k).toInt8.toInt32), (0, .ref t), (1, .int (nI k)), (2, .int 0), (3, .int (nI (strL.getD i 0)))]) G.hx G.hb (dcs_get dec_J1_ic 15 rfl) hl (k := 0) rfl (nI_1 j) (by decide) rfl (fun ls hl => ?_)
        refine lv_goto (tgt := 7) G.hx G.hb (dcs_get dec_J1_ic 16 rfl) (by decide) ?_
        exact ih (j + 1) ls (by omega) h4 he hl
      · have hc : b = (nI k).toInt8.toInt32 := by simpa using hc
        rw [if_pos ((sc_eq (hb b h5) hk).mp hc)] at he
        refine lv_iload G.hx G.hb (dcs_get dec_J1_ic 13 rfl) (lv_at hl 0 rfl) ?_
        exact r_iret G w hm he.symm rfl (dcs_get dec_J1_ic 14 rfl)
  exact loop _ 0 ls (Nat.zero_le _) rfl rfl hl
theorem C_J1_io (hi : hInj n ad) (h2 : i < 2) (h0 : 0 < strL.getD i 0) {k : Nat} (hk : k < 256) : hM2 l D ay K n ad yJ1_indexOf_4cfef cJ1_indexOf_4cfef 4 (some .int) (rmK 1 60) [.ref t, .int (nI k), .int 0, .int (nI (strL.getD i 0))] σ i q t (cI D ay K n ad (str_ixF (nI k) (strB.getD i []) 0) σ) := by
  obtain ⟨hL, hL2, hb⟩ := str_all i h2
  refine hM2_in (by decide) hi (Nat.le_of_ble_eq_true rfl) (fun p e s m below meth c G hm hs w ls hl => ?_)
  refine lv_iload_n G.hx G.hb (dcs_get dec_J1_io 0 rfl) rfl (lv_at hl 1 rfl) ?_
  refine a_i (k_S (As := [.int (nI k)]) (rest := []) lb_J1_ce q_551 q_550 (C_J1_ce G.2.2.1 hk) ⟨(Nat.le_of_ble_eq_true rfl), (Nat.le_of_ble_eq_true rfl)⟩ G w rfl rfl hl.1 (Nat.le_of_ble_eq_true rfl) (dcs_get dec_J1_io 1 rfl) ⟨Nat.le_refl _, Nat.le_refl _⟩) G w (fun H locs w => ?_)
  refine lv_if_ne (tgt := 9) G.hx G.hb (dcs_get dec_J1_io 2 rfl) (by decide) (fun hc => ?_) (fun hc => absurd hc (by decide))
  refine lv_iload_n G.hx G.hb (dcs_get dec_J1_io 3 rfl) rfl (lv_at hl 2 rfl) ?_
  refine lv_iconst (v := (0 : Int32)) G.hx G.hb (dcs_get dec_J1_io 4 rfl) (by decide) ?_
  refine r_max q_553 q_554 q_19 q_555 ⟨Nat.le_of_ble_eq_true rfl, Nat.le_of_ble_eq_true rfl⟩ ⟨Nat.le_refl _, Nat.le_refl _⟩ G hl.1 (dcs_get dec_J1_io 5 rfl) ?_
  rw [if_neg (show ¬ (0 : Int32) < 0 by decide)]
  refine lv_istore_n (lv' := [(2, .int 0), (0, .ref t), (1, .int (nI k)), (3, .int (nI (strL.getD i 0)))]) G.hx G.hb (dcs_get dec_J1_io 6 rfl) rfl hl (by decide) rfl (fun ls hl => ?_)
  refine lv_iload_n G.hx G.hb (dcs_get dec_J1_io 7 rfl) rfl (lv_at hl 3 rfl) ?_
  refine lv_aload_n G.hx G.hb (dcs_get dec_J1_io 8 rfl) rfl (lv_at hl 1 rfl) ?_
  refine va_tlen (v := nI (strL.getD i 0)) G.hx G.hb hs.2.2.2 w.2 rfl (dcs_get dec_J1_io 9 rfl) ?_
  refine r_min q_556 q_557 q_19 q_558 ⟨Nat.le_of_ble_eq_true rfl, Nat.le_of_ble_eq_true rfl⟩ ⟨Nat.le_refl _, Nat.le_refl _⟩ G hl.1 (dcs_get dec_J1_io 10 rfl) ?_
  rw [ite_self]
  refine lv_istore_n (lv' := [(3, .int (nI (strL.getD i 0))), (2, .int 0), (0, .ref t), (1, .int (nI k))]) G.hx G.hb (dcs_get dec_J1_io 11 rfl) rfl hl (by decide) rfl (fun ls hl => ?_)
  refine lv_iload_n G.hx G.hb (dcs_get dec_J1_io 12 rfl) rfl (lv_at hl 1 rfl) ?_
  refine lv_iload_n G.hx G.hb (dcs_get dec_J1_io 13 rfl) rfl (lv_at hl 0 rfl) ?_
  refine lv_icmp_lt (tgt := 29) G.hx G.hb (dcs_get dec_J1_io 14 rfl) (by decide) (fun hc => ?_) (fun hc => absurd (nI_lt (a := 0) h0 (by omega)) hc)
  refine lv_aload_n G.hx G.hb (dcs_get dec_J1_io 15 rfl) rfl (lv_at hl 2 rfl) ?_
  refine lv_iload_n G.hx G.hb (dcs_get dec_J1_io 16 rfl) rfl (lv_at hl 3 rfl) ?_
  refine lv_iload_n G.hx G.hb (dcs_get dec_J1_io 17 rfl) rfl (lv_at hl 1 rfl) ?_
  refine lv_iload_n G.hx G.hb (dcs_get dec_J1_io 18 rfl) rfl (lv_at hl 0 rfl) ?_
  refine a_i (k_Ss (As := [.ref t, .int (nI k), .int 0, .int (nI (strL.getD i 0))]) (rest := []) lb_J1_ic q_560 q_559 (C_J1_ic G.2.2.1 h2 hk) ⟨(Nat.le_of_ble_eq_true rfl), (Nat.le_of_ble_eq_true rfl)⟩ G w hs rfl rfl hl.1 (Nat.le_of_ble_eq_true rfl) (dcs_get dec_J1_io 19 rfl) ⟨Nat.le_refl _, Nat.le_refl _⟩) G w (fun H locs w => ?_)
  exact r_iret G w hm rfl rfl (dcs_get dec_J1_io 20 rfl)
theorem C_J0_i2 (hi : hInj n ad) (h2 : i < 2) (h0 : 0 < strL.getD i 0) {k : Nat} (hk : k < 256) : hM2 l D ay K n ad yJ0_indexOf_7cf53 cJ0_indexOf_7cf53 3 (some .int) (rmK 2 100) [.ref q, .int (nI k), .int 0] σ i q t (cI D ay K n ad (str_ixF (nI k) (strB.getD i []) 0) σ) := by
  refine hM2_in (by decide) hi (Nat.le_of_ble_eq_true rfl) (fun p e s m below meth c G hm hs w ls hl => ?_)
  refine lv_aload_n G.hx G.hb (dcs_get dec_J0_i2 0 rfl) rfl (lv_at hl 0 rfl) ?_
  refine a_i (k_Vs (As := []) (rest := []) rfl lb_J0_il lv_J0_il q_486 (C_J0_il G.2.2.1) ⟨(Nat.le_of_ble_eq_true rfl), (Nat.le_of_ble_eq_true rfl)⟩ G w hs rfl rfl hl.1 (Nat.le_of_ble_eq_true rfl) (dcs_get dec_J0_i2 1 rfl) ⟨Nat.le_refl _, Nat.le_refl _⟩) G w (fun H locs w => ?_)
  refine lv_if_eq (tgt := 23) G.hx G.hb (dcs_get dec_J0_i2 2 rfl) (by decide) (fun hc => absurd hc (by decide)) (fun hc => ?_)
  refine lv_aload_n G.hx G.hb (dcs_get dec_J0_i2 3 rfl) rfl (lv_at hl 0 rfl) ?_
  refine vk_getf G.hx G.hb hs.2.2.1 w.2 G.hown (G.hts _ q_1576) (fun _ h => h) (dcs_get dec_J0_i2 4 rfl) ?_
  refine lv_iload_n G.hx G.hb (dcs_get dec_J0_i2 5 rfl) rfl (lv_at hl 1 rfl) ?_
  refine lv_iload_n G.hx G.hb (dcs_get dec_J0_i2 6 rfl) rfl (lv_at hl 2 rfl) ?_
  refine lv_aload_n G.hx G.hb (dcs_get dec_J0_i2 7 rfl) rfl (lv_at hl 0 rfl) ?_
  refine a_i (k_Vs (As := []) (rest := [.int 0, .int (nI k), .ref t]) rfl lb_J0_le lv_J0_le q_539 (C_J0_le G.2.2.1 h2) ⟨(Nat.le_of_ble_eq_true rfl), (Nat.le_of_ble_eq_true rfl)⟩ G w hs rfl rfl hl.1 (Nat.le_of_ble_eq_true rfl) (dcs_get dec_J0_i2 8 rfl) ⟨Nat.le_refl _, Nat.le_refl _⟩) G w (fun H locs w => ?_)
  refine a_i (k_Ss (As := [.ref t, .int (nI k), .int 0, .int (nI (strL.getD i 0))]) (rest := []) lb_J1_io q_548 q_547 (C_J1_io G.2.2.1 h2 h0 hk) ⟨(Nat.le_of_ble_eq_true rfl), (Nat.le_of_ble_eq_true rfl)⟩ G w hs rfl rfl hl.1 (Nat.le_of_ble_eq_true rfl) (dcs_get dec_J0_i2 9 rfl) ⟨Nat.le_refl _, Nat.le_refl _⟩) G w (fun H locs w => ?_)
  refine lv_goto (tgt := 36) G.hx G.hb (dcs_get dec_J0_i2 10 rfl) (by decide) ?_
  exact r_iret G w hm rfl rfl (dcs_get dec_J0_i2 11 rfl)
theorem lv_J0_i2 : lkV yJ0_indexOf_7cf53 := ⟨q_536, q_537⟩
theorem C_J0_i1 (hi : hInj n ad) (h2 : i < 2) (h0 : 0 < strL.getD i 0) {k : Nat} (hk : k < 256) : hM2 l D ay K n ad yJ0_indexOf_0f7a4 cJ0_indexOf_0f7a4 2 (some .int) (rmK 3 200) [.ref q, .int (nI k)] σ i q t (cI D ay K n ad (str_ixF (nI k) (strB.getD i []) 0) σ) := by
  refine hM2_in (by decide) hi (Nat.le_of_ble_eq_true rfl) (fun p e s m below meth c G hm hs w ls hl => ?_)
  refine lv_aload_n G.hx G.hb (dcs_get dec_J0_i1 0 rfl) rfl (lv_at hl 0 rfl) ?_
  refine lv_iload_n G.hx G.hb (dcs_get dec_J0_i1 1 rfl) rfl (lv_at hl 1 rfl) ?_
  refine lv_iconst (v := (0 : Int32)) G.hx G.hb (dcs_get dec_J0_i1 2 rfl) (by decide) ?_
  refine a_i (k_Vs (As := [.int (nI k), .int 0]) (rest := []) rfl lb_J0_i2 lv_J0_i2 q_535 (C_J0_i2 G.2.2.1 h2 h0 hk) ⟨(Nat.le_of_ble_eq_true rfl), (Nat.le_of_ble_eq_true rfl)⟩ G w hs rfl rfl hl.1 (Nat.le_of_ble_eq_true rfl) (dcs_get dec_J0_i1 3 rfl) ⟨Nat.le_refl _, Nat.le_refl _⟩) G w (fun H locs w => ?_)
  exact r_iret G w hm rfl rfl (dcs_get dec_J0_i1 4 rfl)
theorem lv_J0_i1 : lkV yJ0_indexOf_0f7a4 := ⟨q_532, q_533⟩
theorem lv_J0_ca : lkV yJ0_charAt_5068e := ⟨q_483, q_484⟩
end HJ
section HS
variable {p : Program} {l : Launch} {e : Env} {R : Room} {s : State} {m : MethodId} {args : Array Value} {below : List Frame} {meth : Method} {c : Code} {H : Heap} {locs : List Loc} {cells slots : Nat} {Q : State → Prop}
variable {cc : ByteArray} {nL pc : Nat} {ls : Array Slot} {rest : List Value} {D : va_G} {ay : Nat → ClassId} {K : Nat → Nat × Nat} {n : Nat} {ad : Nat → Nat} {A : Nat → Prop} {σ : hSt}
theorem hStr.get {A : Nat → Prop} {i q : Nat} (h2 : i < 2) (h : hXs A s H) (hq : hStr i q s) : ∃ t, hSq i q t A s H := by
  obtain ⟨-, -, -, adK, adV, ⟨a, -⟩, b, c⟩ := h
  have e : q = adK i := by
    rcases (show i = 0 ∨ i = 1 by omega) with z | z <;> subst z
    · have := hq.2.symm.trans b.2
      injection this with this
      injection this
    · have := hq.2.symm.trans c.2
      injection this with this
      injection this
  subst e
  exact ⟨adV i, a i h2⟩
theorem r_ldcS0 (G : Gx p m c cc nL s args RX8 D ay n ad A) (w : Wd D ay K n ad A s σ H locs) (hdg : decode cc pc = .ok (.ldc 68, 2)) (kk : ∀ q : Nat, hStr 0 q s → W p l e R s m args below meth c H locs cells slots Q (F0 m (pc + 2) ls (.ref q :: rest))) : W p l e R s m args below meth c H locs cells slots Q (F0 m pc ls rest) := by
  obtain ⟨-, -, -, adK, adV, a, b, cq⟩ := G.2.2.2.2.2.2
  exact va_ldcS G.hx G.hb G.hown b hdg (kk _ b)
theorem r_ldcS1 (G : Gx p m c cc nL s args RX8 D ay n ad A) (w : Wd D ay K n ad A s σ H locs) (hdg : decode cc pc = .ok (.ldc 56, 2)) (kk : ∀ q : Nat, hStr 1 q s → W p l e R s m args below meth c H locs cells slots Q (F0 m (pc + 2) ls (.ref q :: rest))) : W p l e R s m args below meth c H locs cells slots Q (F0 m pc ls rest) := by
  obtain ⟨-, -, -, adK, adV, a, b, cq⟩ := G.2.2.2.2.2.2
  exact va_ldcS G.hx G.hb G.hown cq hdg (kk _ cq)
theorem r_charAt {q fR vR : Nat} {i : Int32} (hR : 6 ≤ (rmK fR vR).frames ∧ 200 ≤ (rmK fR vR).locals) (hW : (rest.map fun v => v.category).sum ≤ 8) (G : Gx p m c cc nL s args RX8 D ay n ad A) (w : Wd D ay K n ad A s σ H locs) (hq : hStr 0 q s) (hi : inb i 152 = true) (hls : ls.size = nL) (hdg : decode cc pc = .ok (.invokevirtual 70, 3))
    (kk : ∀ (H1 : Heap) (locs1 : List Loc), Wd D ay K n ad A s σ H1 locs1 → W p l e (rmK fR vR) s m args below meth c H1 locs1 0 0 Q (F0 m (pc + 3) ls (.int (wordsAt i.toNatClampNeg) :: rest))) : W p l e (rmK fR vR) s m args below meth c H locs 0 0 Q (F0 m pc ls (.int i :: .ref q :: rest)) := by
  obtain ⟨t, hs⟩ := hStr.get (i := 0) (by decide) G.2.2.2.2.2.2 hq
  obtain ⟨k, hk, e⟩ := vp_in_of (inb_in hi) (by decide)
  subst e
  have := C_J0_ca (l := l) (D := D) (ay := ay) (K := K) (n := n) (ad := ad) (σ := σ) (i := 0) (q := q) (t := t) G.2.2.1 (by decide) (k := k) hk
  rw [str_w k hk] at this
  refine a_i (k_Vs (As := [.int (nI k)]) (rest := rest) rfl lb_J0_ca lv_J0_ca q_482 this ⟨by omega, by omega⟩ G w hs rfl rfl hls hW hdg ⟨Nat.le_refl _, Nat.le_refl _⟩) G w (fun H1 locs1 w1 => ?_)
  have := kk H1 locs1 w1
  rw [nI_clamp (by omega)] at this
  exact this
theorem r_indexOf {q fR vR : Nat} {i : Int32} (hR : 8 ≤ (rmK fR vR).frames ∧ 300 ≤ (rmK fR vR).locals) (hW : (rest.map fun v => v.category).sum ≤ 8) (G : Gx p m c cc nL s args RX8 D ay n ad A) (w : Wd D ay K n ad A s σ H locs) (hq : hStr 1 q s) (hi : isC8 i = true) (hls : ls.size = nL) (hdg : decode cc pc = .ok (.invokevirtual 58, 3))
    (kk : ∀ (H1 : Heap) (locs1 : List Loc), Wd D ay K n ad A s σ H1 locs1 → W p l e (rmK fR vR) s m args below meth c H1 locs1 0 0 Q (F0 m (pc + 3) ls (.int (signsIdx i) :: rest))) : W p l e (rmK fR vR) s m args below meth c H locs 0 0 Q (F0 m pc ls (.int i :: .ref q :: rest)) := by
  obtain ⟨t, hs⟩ := hStr.get (i := 1) (by decide) G.2.2.2.2.2.2 hq
  have hi2 : (0 : Int32) ≤ i ∧ i < 256 := by
    unfold isC8 at hi
    simpa using hi
  obtain ⟨k, hk0, e⟩ := nI_of (Int32.not_lt.mpr hi2.1)
  subst e
  have hk : k < 256 := (nI_ltI (b := 256) hk0 (by decide)).mp hi2.2
  have := C_J0_i1 (l := l) (D := D) (ay := ay) (K := K) (n := n) (ad := ad) (σ := σ) (i := 1) (q := q) (t := t) G.2.2.1 (by decide) (by decide) (k := k) hk
  rw [str_g k hk] at this
  exact a_i (k_Vs (As := [.int (nI k)]) (rest := rest) rfl lb_J0_i1 lv_J0_i1 q_531 this ⟨by omega, by omega⟩ G w hs rfl rfl hls hW hdg ⟨Nat.le_refl _, Nat.le_refl _⟩) G w kk
end HS
