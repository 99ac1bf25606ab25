/-! HillDrums.Reader.kind()I -/
def DL_X4_kind_0 : List (Nat × Instr × Nat) := [(0, .aload_n 0, 1), (1, .getfield 29, 3), (4, .ifCond .ne 28, 3), (7, .aload_n 0, 1), (8, .getfield 25, 3), (11, .sipush 401, 3), (14, .if_icmp .ge 18, 3), (17, .aload_n 0, 1), (18, .getfield 12, 3), (21, .getfield 61, 3), (24, .aload_n 0, 1), (25, .getfield 25, 3), (28, .iaload, 1), (29, .goto 4, 3), (32, .iconst 1, 1), (33, .ireturn, 1)]
set_option maxRecDepth 100000 in
theorem dec_X4_kind_0 : dcs cX4_kind DL_X4_kind_0 = true := by decide +kernel
theorem lb_X4_kind : lkB yX4_kind cX4_kind 1 ((some .int)) 0 := ⟨q_600, q_6, ⟨by decide, by decide⟩, by decide +kernel⟩
theorem lv_X4_kind : lkV yX4_kind := ⟨q_599, qs_12⟩
def F_X4_kind_33 (s0 : Int32) (σ : hSt) : Option (Int32) :=
some (s0)
def F_X4_kind_32  (σ : hSt) : Option (Int32) :=
F_X4_kind_33 (1 : Int32) σ
def F_X4_kind (a0 : Nat) (σ : hSt) : Option (Int32) :=
if (σ.1 a0 5) = 0 then (
if (401 : Int32) ≤ (σ.1 a0 4) then (
F_X4_kind_32  σ) else (
cR (σ.2.2 a0 0) (okr kC NC 8) fun z1 =>
cR (σ.2.2 z1 0) (okr kC NC 101) fun z2 =>
cG (inb (σ.1 a0 4) (kC z2).2) <|
F_X4_kind_33 (σ.1 z2 (σ.1 a0 4).toNatClampNeg) σ)) else (
F_X4_kind_32  σ)
section
variable {p : Program} {l : Launch} {e : Env} {s : State} {m : MethodId} {args : Array Value} {below : List Frame} {meth : Method} {c : Code} {D : va_G} {ay : Nat → ClassId} {ad : Nat → Nat}
set_option maxRecDepth 100000 in
set_option maxHeartbeats 4000000 in
theorem B_X4_kind_33 {H : Heap} {locs : List Loc} {ls : Array Slot} {r0 : Int32} (s0 : Int32) (σ : hSt) (G : Gx p m c cX4_kind 1 s args RX4 D ay NC ad (aN NC ad)) (hm : meth.sig.returnType = (some .int) ∧ meth.locks = false)  (hf : F_X4_kind_33 s0 σ = some r0)  (w : Wd D ay kC NC ad (aN NC ad) s σ H locs) (hl : lv_has ls 1 []) : W p l e (rmK 0 0) s m args below meth c H locs 0 0 (MQ below (cI D ay kC NC ad r0 σ) args s 0 0 (aN NC ad)) (F0 m 33 ls [.int s0]) := by
  unfold F_X4_kind_33 at hf
  have e9 := Option.some.inj hf
  exact r_iret G w hm e9 rfl (dcs_get dec_X4_kind_0 15 rfl)
set_option maxRecDepth 100000 in
set_option maxHeartbeats 4000000 in
theorem B_X4_kind_32 {H : Heap} {locs : List Loc} {ls : Array Slot} {r0 : Int32}  (σ : hSt) (G : Gx p m c cX4_kind 1 s args RX4 D ay NC ad (aN NC ad)) (hm : meth.sig.returnType = (some .int) ∧ meth.locks = false)  (hf : F_X4_kind_32  σ = some r0)  (w : Wd D ay kC NC ad (aN NC ad) s σ H locs) (hl : lv_has ls 1 []) : W p l e (rmK 0 0) s m args below meth c H locs 0 0 (MQ below (cI D ay kC NC ad r0 σ) args s 0 0 (aN NC ad)) (F0 m 32 ls []) := by
  unfold F_X4_kind_32 at hf
  refine lv_iconst (v := (1 : Int32)) G.hx G.hb (dcs_get dec_X4_kind_0 14 rfl) (by decide) ?_
  exact B_X4_kind_33 (1 : Int32) σ G hm  hf  w (lv_sub hl [] rfl)
set_option maxRecDepth 100000 in
set_option maxHeartbeats 4000000 in
theorem B_X4_kind_0 {H : Heap} {locs : List Loc} {ls : Array Slot} {r0 : Int32} (a0 : Nat) (σ : hSt) (G : Gx p m c cX4_kind 1 s args RX4 D ay NC ad (aN NC ad)) (hm : meth.sig.returnType = (some .int) ∧ meth.locks = false) (ok_a0 : okr kC NC 4 a0 = true) (hf : F_X4_kind a0 σ = some r0)  (w : Wd D ay kC NC ad (aN NC ad) s σ H locs) (hl : lv_has ls 1 [(0, .ref (ad a0))]) : W p l e (rmK 0 0) s m args below meth c H locs 0 0 (MQ below (cI D ay kC NC ad r0 σ) args s 0 0 (aN NC ad)) (F0 m 0 ls []) := by
  have k_a0 := okr_in ok_a0
  unfold F_X4_kind at hf
  refine lv_aload_n G.hx G.hb (dcs_get dec_X4_kind_0 0 rfl) rfl (lv_at hl 0 rfl) ?_
  refine r_geti (k := 5) cls4 fi_4_5.1 fi_4_5.2 q_202 G w k_a0.1 k_a0.2 (dcs_get dec_X4_kind_0 1 rfl) ?_
  refine lv_if_ne (tgt := 32) G.hx G.hb (dcs_get dec_X4_kind_0 2 rfl) (by decide) (fun hc => ?_) (fun hc => ?_)
  · rw [if_neg hc] at hf
    exact B_X4_kind_32  σ G hm  hf  w (lv_sub hl [] rfl)
  · rw [if_pos hc] at hf
    refine lv_aload_n G.hx G.hb (dcs_get dec_X4_kind_0 3 rfl) rfl (lv_at hl 0 rfl) ?_
    refine r_geti (k := 4) cls4 fi_4_4.1 fi_4_4.2 q_201 G w k_a0.1 k_a0.2 (dcs_get dec_X4_kind_0 4 rfl) ?_
    refine lv_sipush (v := (401 : Int32)) G.hx G.hb (dcs_get dec_X4_kind_0 5 rfl) (by decide) ?_
    refine lv_icmp_ge (tgt := 32) G.hx G.hb (dcs_get dec_X4_kind_0 6 rfl) (by decide) (fun hc => ?_) (fun hc => ?_)
    · rw [if_pos hc] at hf
      exact B_X4_kind_32  σ G hm  hf  w (lv_sub hl [] rfl)
    · rw [if_neg hc] at hf
      refine lv_aload_n G.hx G.hb (dcs_get dec_X4_kind_0 7 rfl) rfl (lv_at hl 0 rfl) ?_
      obtain ⟨z1, e_z1, ok_z1, hf⟩ := cR_some hf
      have k_z1 := okr_in ok_z1
      refine r_getr (k := 0) cls4 fi_4_0.1 fi_4_0.2 q_197 G w k_a0.1 k_a0.2 e_z1 (dcs_get dec_X4_kind_0 8 rfl) ?_
      obtain ⟨z2, e_z2, ok_z2, hf⟩ := cR_some hf
      have k_z2 := okr_in ok_z2
      refine r_getrN (k := 0) cls8 fi_8_0.1 fi_8_0.2 nf_185 G w k_z1.1 k_z1.2 e_z2 (dcs_get dec_X4_kind_0 9 rfl) ?_
      refine lv_aload_n G.hx G.hb (dcs_get dec_X4_kind_0 10 rfl) rfl (lv_at hl 0 rfl) ?_
      refine r_geti (k := 4) cls4 fi_4_4.1 fi_4_4.2 q_201 G w k_a0.1 k_a0.2 (dcs_get dec_X4_kind_0 11 rfl) ?_
      obtain ⟨h3, hf⟩ := cG_some hf
      refine r_iald G w k_z2.1 k_z2.2 h3 (dcs_get dec_X4_kind_0 12 rfl) ?_
      refine lv_goto (tgt := 33) G.hx G.hb (dcs_get dec_X4_kind_0 13 rfl) (by decide) ?_
      exact B_X4_kind_33 (σ.1 z2 (σ.1 a0 4).toNatClampNeg) σ G hm  hf  w (lv_sub hl [] rfl)
end
set_option maxRecDepth 100000 in
set_option maxHeartbeats 4000000 in
theorem C_X4_kind {l : Launch} {D : va_G} {ay : Nat → ClassId} {ad : Nat → Nat} (hi : hInj NC ad) (a0 : Nat) (σ : hSt) {r0 : Int32} (hf : F_X4_kind a0 σ = some r0) (ok_a0 : okr kC NC 4 a0 = true) : hM l D ay kC NC ad yX4_kind cX4_kind 1 ((some .int)) (rmK 0 0) [.ref (ad a0)] σ (cI D ay kC NC ad r0 σ) := by
  refine hM_in (by decide) hi (Nat.le_of_ble_eq_true rfl) ?_
  intro p e s m below meth c G hm w ls hl
  exact B_X4_kind_0 a0 σ G hm ok_a0 hf w (lv_sub hl [0] rfl)

/-! HillDrums.Reader.fail(I)V -/
def DL_X4_fail_0 : List (Nat × Instr × Nat) := [(0, .aload_n 0, 1), (1, .getfield 29, 3), (4, .ifCond .ne 34, 3), (7, .aload_n 0, 1), (8, .getfield 25, 3), (11, .sipush 401, 3), (14, .if_icmp .ge 24, 3), (17, .aload_n 0, 1), (18, .iload_n 1, 1), (19, .putfield 29, 3), (22, .aload_n 0, 1), (23, .aload_n 0, 1), (24, .getfield 12, 3), (27, .getfield 65, 3), (30, .aload_n 0, 1), (31, .getfield 25, 3), (34, .iaload, 1), (35, .putfield 32, 3), (38, .return_, 1)]
set_option maxRecDepth 100000 in
theorem dec_X4_fail_0 : dcs cX4_fail DL_X4_fail_0 = true := by decide +kernel
theorem lb_X4_fail : lkB yX4_fail cX4_fail 2 (none) 1 := ⟨q_612, q_6, ⟨by decide, by decide⟩, by decide +kernel⟩
theorem lv_X4_fail : lkV yX4_fail := ⟨q_611, qs_15⟩
def F_X4_fail_38  (σ : hSt) : Option (hSt) :=
some (σ)
def F_X4_fail (a0 : Nat) (l1 : Int32) (σ : hSt) : Option (hSt) :=
if (σ.1 a0 5) = 0 then (
if (401 : Int32) ≤ (σ.1 a0 4) then (
F_X4_fail_38  σ) else (
cL (uI σ a0 5 l1) fun σ1 =>
cR (σ1.2.2 a0 0) (okr kC NC 8) fun z2 =>
cR (σ1.2.2 z2 1) (okr kC NC 101) fun z3 =>
cG (inb (σ1.1 a0 4) (kC z3).2) <|
cL (uI σ1 a0 6 (σ1.1 z3 (σ1.1 a0 4).toNatClampNeg)) fun σ5 =>
F_X4_fail_38  σ5)) else (
F_X4_fail_38  σ)
section
variable {p : Program} {l : Launch} {e : Env} {s : State} {m : MethodId} {args : Array Value} {below : List Frame} {meth : Method} {c : Code} {D : va_G} {ay : Nat → ClassId} {ad : Nat → Nat}
set_option maxRecDepth 100000 in
set_option maxHeartbeats 4000000 in
theorem B_X4_fail_38 {H : Heap} {locs : List Loc} {ls : Array Slot} {σ0 : hSt}  (σ : hSt) (G : Gx p m c cX4_fail 2 s args RX4 D ay NC ad (aN NC ad)) (hm : meth.sig.returnType = none ∧ meth.locks = false)  (hf : F_X4_fail_38  σ = some σ0)  (w : Wd D ay kC NC ad (aN NC ad) s σ H locs) (hl : lv_has ls 2 []) : W p l e (rmK 0 0) s m args below meth c H locs 0 0 (MQ below (cV D ay kC NC ad σ0) args s 0 0 (aN NC ad)) (F0 m 38 ls []) := by
  unfold F_X4_fail_38 at hf
  have e9 := Option.some.inj hf
  exact r_vret G w hm e9 (dcs_get dec_X4_fail_0 18 rfl)
set_option maxRecDepth 100000 in
set_option maxHeartbeats 4000000 in
theorem B_X4_fail_0 {H : Heap} {locs : List Loc} {ls : Array Slot} {σ0 : hSt} (a0 : Nat) (l1 : Int32) (σ : hSt) (G : Gx p m c cX4_fail 2 s args RX4 D ay NC ad (aN NC ad)) (hm : meth.sig.returnType = none ∧ meth.locks = false) (ok_a0 : okr kC NC 4 a0 = true) (hf : F_X4_fail a0 l1 σ = some σ0)  (w : Wd D ay kC NC ad (aN NC ad) s σ H locs) (hl : lv_has ls 2 [(0, .ref (ad a0)), (1, .int l1)]) : W p l e (rmK 0 0) s m args below meth c H locs 0 0 (MQ below (cV D ay kC NC ad σ0) args s 0 0 (aN NC ad)) (F0 m 0 ls []) := by
  have k_a0 := okr_in ok_a0
  unfold F_X4_fail at hf
  refine lv_aload_n G.hx G.hb (dcs_get dec_X4_fail_0 0 rfl) rfl (lv_at hl 0 rfl) ?_
  refine r_geti (k := 5) cls4 fi_4_5.1 fi_4_5.2 q_202 G w k_a0.1 k_a0.2 (dcs_get dec_X4_fail_0 1 rfl) ?_
  refine lv_if_ne (tgt := 38) G.hx G.hb (dcs_get dec_X4_fail_0 2 rfl) (by decide) (fun hc => ?_) (fun hc => ?_)
  · rw [if_neg hc] at hf
    exact B_X4_fail_38  σ G hm  hf  w (lv_sub hl [] rfl)
  · rw [if_pos hc] at hf
    refine lv_aload_n G.hx G.hb (dcs_get dec_X4_fail_0 3 rfl) rfl (lv_at hl 0 rfl) ?_
    refine r_geti (k := 4) cls4 fi_4_4.1 fi_4_4.2 q_201 G w k_a0.1 k_a0.2 (dcs_get dec_X4_fail_0 4 rfl) ?_
    refine lv_sipush (v := (401 : Int32)) G.hx G.hb (dcs_get dec_X4_fail_0 5 rfl) (by decide) ?_
    refine lv_icmp_ge (tgt := 38) G.hx G.hb (dcs_get dec_X4_fail_0 6 rfl) (by decide) (fun hc => ?_) (fun hc => ?_)
    · rw [if_pos hc] at hf
      exact B_X4_fail_38  σ G hm  hf  w (lv_sub hl [] rfl)
    · rw [if_neg hc] at hf
      refine lv_aload_n G.hx G.hb (dcs_get dec_X4_fail_0 7 rfl) rfl (lv_at hl 0 rfl) ?_
      refine lv_iload_n G.hx G.hb (dcs_get dec_X4_fail_0 8 rfl) rfl (lv_at hl 1 rfl) ?_
      obtain ⟨σ1, e_σ1, hf⟩ := cL_some hf
      refine r_puti (k := 5) cls4 ct4 fi_4_5.1 fi_4_5.2 fp_4_5.1 fp_4_5.2 q_202 rfl rfl G w k_a0.1 k_a0.2 (dcs_get dec_X4_fail_0 9 rfl) (fun H locs w => ?_)
      have w := Wd.nm e_σ1 w
      refine lv_aload_n G.hx G.hb (dcs_get dec_X4_fail_0 10 rfl) rfl (lv_at hl 0 rfl) ?_
      refine lv_aload_n G.hx G.hb (dcs_get dec_X4_fail_0 11 rfl) rfl (lv_at hl 0 rfl) ?_
      obtain ⟨z2, e_z2, ok_z2, hf⟩ := cR_some hf
      have k_z2 := okr_in ok_z2
      refine r_getr (k := 0) cls4 fi_4_0.1 fi_4_0.2 q_197 G w k_a0.1 k_a0.2 e_z2 (dcs_get dec_X4_fail_0 12 rfl) ?_
      obtain ⟨z3, e_z3, ok_z3, hf⟩ := cR_some hf
      have k_z3 := okr_in ok_z3
      refine r_getrN (k := 1) cls8 fi_8_1.1 fi_8_1.2 nf_187 G w k_z2.1 k_z2.2 e_z3 (dcs_get dec_X4_fail_0 13 rfl) ?_
      refine lv_aload_n G.hx G.hb (dcs_get dec_X4_fail_0 14 rfl) rfl (lv_at hl 0 rfl) ?_
      refine r_geti (k := 4) cls4 fi_4_4.1 fi_4_4.2 q_201 G w k_a0.1 k_a0.2 (dcs_get dec_X4_fail_0 15 rfl) ?_
      obtain ⟨h4, hf⟩ := cG_some hf
      refine r_iald G w k_z3.1 k_z3.2 h4 (dcs_get dec_X4_fail_0 16 rfl) ?_
      obtain ⟨σ5, e_σ5, hf⟩ := cL_some hf
      refine r_puti (k := 6) cls4 ct4 fi_4_6.1 fi_4_6.2 fp_4_6.1 fp_4_6.2 q_204 rfl rfl G w k_a0.1 k_a0.2 (dcs_get dec_X4_fail_0 17 rfl) (fun H locs w => ?_)
      have w := Wd.nm e_σ5 w
      exact B_X4_fail_38  σ5 G hm  hf  w (lv_sub hl [] rfl)
end
set_option maxRecDepth 100000 in
set_option maxHeartbeats 4000000 in
theorem C_X4_fail {l : Launch} {D : va_G} {ay : Nat → ClassId} {ad : Nat → Nat} (hi : hInj NC ad) (a0 : Nat) (l1 : Int32) (σ : hSt) {σ0 : hSt} (hf : F_X4_fail a0 l1 σ = some σ0) (ok_a0 : okr kC NC 4 a0 = true) : hM l D ay kC NC ad yX4_fail cX4_fail 2 (none) (rmK 0 0) [.ref (ad a0), .int l1] σ (cV D ay kC NC ad σ0) := by
  refine hM_in (by decide) hi (Nat.le_of_ble_eq_true rfl) ?_
  intro p e s m below meth c G hm w ls hl
  exact B_X4_fail_0 a0 l1 σ G hm ok_a0 hf w (lv_sub hl [0, 1] rfl)

/-! HillDrums.Reader.take(I)J -/
def DL_X4_take_0 : List (Nat × Instr × Nat) := [(0, .aload_n 0, 1), (1, .getfield 29, 3), (4, .ifCond .ne 13, 3), (7, .aload_n 0, 1), (8, .getfield 25, 3), (11, .sipush 401, 3), (14, .if_icmp .lt 5, 3), (17, .lconst 0, 1), (18, .lreturn, 1), (19, .aload_n 0, 1), (20, .getfield 25, 3), (23, .istore_n 2, 1), (24, .aload_n 0, 1), (25, .getfield 12, 3), (28, .getfield 61, 3), (31, .iload_n 2, 1), (32, .iaload, 1), (33, .iload_n 1, 1), (34, .if_icmp .ne 10, 3), (37, .iload_n 2, 1), (38, .sipush 400, 3), (41, .if_icmp .lt 40, 3), (44, .aload_n 0, 1), (45, .aload_n 0, 1), (46, .getfield 12, 3), (49, .getfield 61, 3), (52, .iload_n 2, 1), (53, .iaload, 1), (54, .iload_n 1, 1), (55, .if_icmp .eq 7, 3), (58, .iconst 1, 1), (59, .goto 4, 3), (62, .iconst 2, 1), (63, .putfield 29, 3), (66, .aload_n 0, 1), (67, .aload_n 0, 1), (68, .getfield 12, 3), (71, .getfield 65, 3), (74, .iload_n 2, 1), (75, .iaload, 1)]
set_option maxRecDepth 100000 in
theorem dec_X4_take_0 : dcs cX4_take DL_X4_take_0 = true := by decide +kernel
def DL_X4_take_1 : List (Nat × Instr × Nat) := [(76, .putfield 32, 3), (79, .lconst 0, 1), (80, .lreturn, 1), (81, .aload_n 0, 1), (82, .iload_n 2, 1), (83, .iconst 1, 1), (84, .iadd, 1), (85, .putfield 25, 3), (88, .aload_n 0, 1), (89, .getfield 12, 3), (92, .getfield 68, 3), (95, .iload_n 2, 1), (96, .laload, 1), (97, .lreturn, 1)]
set_option maxRecDepth 100000 in
theorem dec_X4_take_1 : dcs cX4_take DL_X4_take_1 = true := by decide +kernel
theorem lb_X4_take : lkB yX4_take cX4_take 3 ((some .long)) 1 := ⟨q_616, q_6, ⟨by decide, by decide⟩, by decide +kernel⟩
theorem lv_X4_take : lkV yX4_take := ⟨q_615, qs_16⟩
def F_X4_take_17  (σ : hSt) : Option (Int64 × hSt) :=
some (((0 : Int64), σ))
def F_X4_take_63 (a0 : Nat) (l2 : Int32) (s0 : Nat) (s1 : Int32) (σ : hSt) : Option (Int64 × hSt) :=
cL (uI σ s0 5 s1) fun σ1 =>
cR (σ1.2.2 a0 0) (okr kC NC 8) fun z2 =>
cR (σ1.2.2 z2 1) (okr kC NC 101) fun z3 =>
cG (inb l2 (kC z3).2) <|
cL (uI σ1 a0 6 (σ1.1 z3 l2.toNatClampNeg)) fun σ5 =>
some (((0 : Int64), σ5))
def F_X4_take_44 (a0 : Nat) (l1 : Int32) (l2 : Int32) (σ : hSt) : Option (Int64 × hSt) :=
cR (σ.2.2 a0 0) (okr kC NC 8) fun z6 =>
cR (σ.2.2 z6 0) (okr kC NC 101) fun z7 =>
cG (inb l2 (kC z7).2) <|
if (σ.1 z7 l2.toNatClampNeg) = l1 then (
F_X4_take_63 a0 l2 a0 (2 : Int32) σ) else (
F_X4_take_63 a0 l2 a0 (1 : Int32) σ)
def F_X4_take (a0 : Nat) (l1 : Int32) (σ : hSt) : Option (Int64 × hSt) :=
if (σ.1 a0 5) = 0 then (
if (σ.1 a0 4) < (401 : Int32) then (
cL (σ.1 a0 4) fun v9 =>
cR (σ.2.2 a0 0) (okr kC NC 8) fun z10 =>
cR (σ.2.2 z10 0) (okr kC NC 101) fun z11 =>
cG (inb v9 (kC z11).2) <|
if (σ.1 z11 v9.toNatClampNeg) = l1 then (
if v9 < (400 : Int32) then (
cL (uI σ a0 4 (v9 + (1 : Int32))) fun σ13 =>
cR (σ13.2.2 a0 0) (okr kC NC 8) fun z14 =>
cR (σ13.2.2 z14 2) (okr kC NC 103) fun z15 =>
cG (inb v9 (kC z15).2) <|
some ((σ13.2.1 z15 v9.toNatClampNeg, σ13))) else (
F_X4_take_44 a0 l1 v9 σ)) else (
F_X4_take_44 a0 l1 v9 σ)) else (
F_X4_take_17  σ)) else (
F_X4_take_17  σ)
section
variable {p : Program} {l : Launch} {e : Env} {s : State} {m : MethodId} {args : Array Value} {below : List Frame} {meth : Method} {c : Code} {D : va_G} {ay : Nat → ClassId} {ad : Nat → Nat}
set_option maxRecDepth 100000 in
set_option maxHeartbeats 4000000 in
theorem B_X4_take_17 {H : Heap} {locs : List Loc} {ls : Array Slot} {r0 : Int64} {σ0 : hSt}  (σ : hSt) (G : Gx p m c cX4_take 3 s args RX4 D ay NC ad (aN NC ad)) (hm : meth.sig.returnType = (some .long) ∧ meth.locks = false)  (hf : F_X4_take_17  σ = some (r0, σ0))  (w : Wd D ay kC NC ad (aN NC ad) s σ H locs) (hl : lv_has ls 3 []) : W p l e (rmK 0 0) s m args below meth c H locs 0 0 (MQ below (cJ D ay kC NC ad r0 σ0) args s 0 0 (aN NC ad)) (F0 m 17 ls []) := by
  unfold F_X4_take_17 at hf
  refine lv_lconst (v := (0 : Int64)) G.hx G.hb (dcs_get dec_X4_take_0 7 rfl) (by decide) ?_
  have e9 := Option.some.inj hf
  exact r_lret G w hm (congrArg Prod.fst e9) (congrArg Prod.snd e9) (dcs_get dec_X4_take_0 8 rfl)
set_option maxRecDepth 100000 in
set_option maxHeartbeats 4000000 in
theorem B_X4_take_63 {H : Heap} {locs : List Loc} {ls : Array Slot} {r0 : Int64} {σ0 : hSt} (a0 : Nat) (l2 : Int32) (s0 : Nat) (s1 : Int32) (σ : hSt) (G : Gx p m c cX4_take 3 s args RX4 D ay NC ad (aN NC ad)) (hm : meth.sig.returnType = (some .long) ∧ meth.locks = false) (ok_a0 : okr kC NC 4 a0 = true) (ok_s0 : okr kC NC 4 s0 = true) (hf : F_X4_take_63 a0 l2 s0 s1 σ = some (r0, σ0))  (w : Wd D ay kC NC ad (aN NC ad) s σ H locs) (hl : lv_has ls 3 [(0, .ref (ad a0)), (2, .int l2)]) : W p l e (rmK 0 0) s m args below meth c H locs 0 0 (MQ below (cJ D ay kC NC ad r0 σ0) args s 0 0 (aN NC ad)) (F0 m 63 ls [.int s1, .ref (ad s0)]) := by
  have k_a0 := okr_in ok_a0
  have k_s0 := okr_in ok_s0
  unfold F_X4_take_63 at hf
  obtain ⟨σ1, e_σ1, hf⟩ := cL_some hf
  refine r_puti (k := 5) cls4 ct4 fi_4_5.1 fi_4_5.2 fp_4_5.1 fp_4_5.2 q_202 rfl rfl G w k_s0.1 k_s0.2 (dcs_get dec_X4_take_0 33 rfl) (fun H locs w => ?_)
  have w := Wd.nm e_σ1 w
  refine lv_aload_n G.hx G.hb (dcs_get dec_X4_take_0 34 rfl) rfl (lv_at hl 0 rfl) ?_
  refine lv_aload_n G.hx G.hb (dcs_get dec_X4_take_0 35 rfl) rfl (lv_at hl 0 rfl) ?_
  obtain ⟨z2, e_z2, ok_z2, hf⟩ := cR_some hf
  have k_z2 := okr_in ok_z2
  refine r_getr (k := 0) cls4 fi_4_0.1 fi_4_0.2 q_197 G w k_a0.1 k_a0.2 e_z2 (dcs_get dec_X4_take_0 36 rfl) ?_
  obtain ⟨z3, e_z3, ok_z3, hf⟩ := cR_some hf
  have k_z3 := okr_in ok_z3
  refine r_getrN (k := 1) cls8 fi_8_1.1 fi_8_1.2 nf_187 G w k_z2.1 k_z2.2 e_z3 (dcs_get dec_X4_take_0 37 rfl) ?_
  refine lv_iload_n G.hx G.hb (dcs_get dec_X4_take_0 38 rfl) rfl (lv_at hl 1 rfl) ?_
  obtain ⟨h4, hf⟩ := cG_some hf
  refine r_iald G w k_z3.1 k_z3.2 h4 (dcs_get dec_X4_take_0 39 rfl) ?_
  obtain ⟨σ5, e_σ5, hf⟩ := cL_some hf
  refine r_puti (k := 6) cls4 ct4 fi_4_6.1 fi_4_6.2 fp_4_6.1 fp_4_6.2 q_204 rfl rfl G w k_a0.1 k_a0.2 (dcs_get dec_X4_take_1 0 rfl) (fun H locs w => ?_)
  have w := Wd.nm e_σ5 w
  refine lv_lconst (v := (0 : Int64)) G.hx G.hb (dcs_get dec_X4_take_1 1 rfl) (by decide) ?_
  have e9 := Option.some.inj hf
  exact r_lret G w hm (congrArg Prod.fst e9) (congrArg Prod.snd e9) (dcs_get dec_X4_take_1 2 rfl)
set_option maxRecDepth 100000 in
set_option maxHeartbeats 4000000 in
theorem B_X4_take_44 {H : Heap} {locs : List Loc} {ls : Array Slot} {r0 : Int64} {σ0 : hSt} (a0 : Nat) (l1 : Int32) (l2 : Int32) (σ : hSt) (G : Gx p m c cX4_take 3 s args RX4 D ay NC ad (aN NC ad)) (hm : meth.sig.returnType = (some .long) ∧ meth.locks = false) (ok_a0 : okr kC NC 4 a0 = true) (hf : F_X4_take_44 a0 l1 l2 σ = some (r0, σ0))  (w : Wd D ay kC NC ad (aN NC ad) s σ H locs) (hl : lv_has ls 3 [(0, .ref (ad a0)), (1, .int l1), (2, .int l2)]) : W p l e (rmK 0 0) s m args below meth c H locs 0 0 (MQ below (cJ D ay kC NC ad r0 σ0) args s 0 0 (aN NC ad)) (F0 m 44 ls []) := by
  have k_a0 := okr_in ok_a0
  unfold F_X4_take_44 at hf
  refine lv_aload_n G.hx G.hb (dcs_get dec_X4_take_0 22 rfl) rfl (lv_at hl 0 rfl) ?_
  refine lv_aload_n G.hx G.hb (dcs_get dec_X4_take_0 23 rfl) rfl (lv_at hl 0 rfl) ?_
  obtain ⟨z6, e_z6, ok_z6, hf⟩ := cR_some hf
  have k_z6 := okr_in ok_z6
  refine r_getr (k := 0) cls4 fi_4_0.1 fi_4_0.2 q_197 G w k_a0.1 k_a0.2 e_z6 (dcs_get dec_X4_take_0 24 rfl) ?_
  obtain ⟨z7, e_z7, ok_z7, hf⟩ := cR_some hf
  have k_z7 := okr_in ok_z7
  refine r_getrN (k := 0) cls8 fi_8_0.1 fi_8_0.2 nf_185 G w k_z6.1 k_z6.2 e_z7 (dcs_get dec_X4_take_0 25 rfl) ?_
  refine lv_iload_n G.hx G.hb (dcs_get dec_X4_take_0 26 rfl) rfl (lv_at hl 2 rfl) ?_
  obtain ⟨h8, hf⟩ := cG_some hf
  refine r_iald G w k_z7.1 k_z7.2 h8 (dcs_get dec_X4_take_0 27 rfl) ?_
  refine lv_iload_n G.hx G.hb (dcs_get dec_X4_take_0 28 rfl) rfl (lv_at hl 1 rfl) ?_
  refine lv_icmp_eq (tgt := 62) G.hx G.hb (dcs_get dec_X4_take_0 29 rfl) (by decide) (fun hc => ?_) (fun hc => ?_)
  · rw [if_pos hc] at hf
    refine lv_iconst (v := (2 : Int32)) G.hx G.hb (dcs_get dec_X4_take_0 32 rfl) (by decide) ?_
    exact B_X4_take_63 a0 l2 a0 (2 : Int32) σ G hm ok_a0 ok_a0 hf  w (lv_sub hl [0, 2] rfl)
  · rw [if_neg hc] at hf
    refine lv_iconst (v := (1 : Int32)) G.hx G.hb (dcs_get dec_X4_take_0 30 rfl) (by decide) ?_
    refine lv_goto (tgt := 63) G.hx G.hb (dcs_get dec_X4_take_0 31 rfl) (by decide) ?_
    exact B_X4_take_63 a0 l2 a0 (1 : Int32) σ G hm ok_a0 ok_a0 hf  w (lv_sub hl [0, 2] rfl)
set_option maxRecDepth 100000 in
set_option maxHeartbeats 4000000 in
theorem B_X4_take_0 {H : Heap} {locs : List Loc} {ls : Array Slot} {r0 : Int64} {σ0 : hSt} (a0 : Nat) (l1 : Int32) (σ : hSt) (G : Gx p m c cX4_take 3 s args RX4 D ay NC ad (aN NC ad)) (hm : meth.sig.returnType = (some .long) ∧ meth.locks = false) (ok_a0 : okr kC NC 4 a0 = true) (hf : F_X4_take a0 l1 σ = some (r0, σ0))  (w : Wd D ay kC NC ad (aN NC ad) s σ H locs) (hl : lv_has ls 3 [(0, .ref (ad a0)), (1, .int l1)]) : W p l e (rmK 0 0) s m args below meth c H locs 0 0 (MQ below (cJ D ay kC NC ad r0 σ0) args s 0 0 (aN NC ad)) (F0 m 0 ls []) := by
  have k_a0 := okr_in ok_a0
  unfold F_X4_take at hf
  refine lv_aload_n G.hx G.hb (dcs_get dec_X4_take_0 0 rfl) rfl (lv_at hl 0 rfl) ?_
  refine r_geti (k := 5) cls4 fi_4_5.1 fi_4_5.2 q_202 G w k_a0.1 k_a0.2 (dcs_get dec_X4_take_0 1 rfl) ?_
  refine lv_if_ne (tgt := 17) G.hx G.hb (dcs_get dec_X4_take_0 2 rfl) (by decide) (fun hc => ?_) (fun hc => ?_)
  · rw [if_neg hc] at hf
    exact B_X4_take_17  σ G hm  hf  w (lv_sub hl [] rfl)
  · rw [if_pos hc] at hf
    refine lv_aload_n G.hx G.hb (dcs_get dec_X4_take_0 3 rfl) rfl (lv_at hl 0 rfl) ?_
    refine r_geti (k := 4) cls4 fi_4_4.1 fi_4_4.2 q_201 G w k_a0.1 k_a0.2 (dcs_get dec_X4_take_0 4 rfl) ?_
    refine lv_sipush (v := (401 : Int32)) G.hx G.hb (dcs_get dec_X4_take_0 5 rfl) (by decide) ?_
    refine lv_icmp_lt (tgt := 19) G.hx G.hb (dcs_get dec_X4_take_0 6 rfl) (by decide) (fun hc => ?_) (fun hc => ?_)
    · rw [if_pos hc] at hf
      refine lv_aload_n G.hx G.hb (dcs_get dec_X4_take_0 9 rfl) rfl (lv_at hl 0 rfl) ?_
      refine r_geti (k := 4) cls4 fi_4_4.1 fi_4_4.2 q_201 G w k_a0.1 k_a0.2 (dcs_get dec_X4_take_0 10 rfl) ?_
      obtain ⟨v9, e_v9, hf⟩ := cL_some hf
      refine r_topi e_v9 ?_
      refine lv_istore_n (lv' := [(2, .int v9), (0, .ref (ad a0)), (1, .int l1)]) G.hx G.hb (dcs_get dec_X4_take_0 11 rfl) rfl hl (by decide) rfl (fun ls hl => ?_)
      refine lv_aload_n G.hx G.hb (dcs_get dec_X4_take_0 12 rfl) rfl (lv_at hl 1 rfl) ?_
      obtain ⟨z10, e_z10, ok_z10, hf⟩ := cR_some hf
      have k_z10 := okr_in ok_z10
      refine r_getr (k := 0) cls4 fi_4_0.1 fi_4_0.2 q_197 G w k_a0.1 k_a0.2 e_z10 (dcs_get dec_X4_take_0 13 rfl) ?_
      obtain ⟨z11, e_z11, ok_z11, hf⟩ := cR_some hf
      have k_z11 := okr_in ok_z11
      refine r_getrN (k := 0) cls8 fi_8_0.1 fi_8_0.2 nf_185 G w k_z10.1 k_z10.2 e_z11 (dcs_get dec_X4_take_0 14 rfl) ?_
      refine lv_iload_n G.hx G.hb (dcs_get dec_X4_take_0 15 rfl) rfl (lv_at hl 0 rfl) ?_
      obtain ⟨h12, hf⟩ := cG_some hf
      refine r_iald G w k_z11.1 k_z11.2 h12 (dcs_get dec_X4_take_0 16 rfl) ?_
      refine lv_iload_n G.hx G.hb (dcs_get dec_X4_take_0 17 rfl) rfl (lv_at hl 2 rfl) ?_
      refine lv_icmp_ne (tgt := 44) G.hx G.hb (dcs_get dec_X4_take_0 18 rfl) (by decide) (fun hc => ?_) (fun hc => ?_)
      · rw [if_neg hc] at hf
        exact B_X4_take_44 a0 l1 v9 σ G hm ok_a0 hf  w (lv_sub hl [1, 2, 0] rfl)
      · rw [if_pos hc] at hf
        refine lv_iload_n G.hx G.hb (dcs_get dec_X4_take_0 19 rfl) rfl (lv_at hl 0 rfl) ?_
        refine lv_sipush (v := (400 : Int32)) G.hx G.hb (dcs_get dec_X4_take_0 20 rfl) (by decide) ?_
        refine lv_icmp_lt (tgt := 81) G.hx G.hb (dcs_get dec_X4_take_0 21 rfl) (by decide) (fun hc => ?_) (fun hc => ?_)
        · rw [if_pos hc] at hf
          refine lv_aload_n G.hx G.hb (dcs_get dec_X4_take_1 3 rfl) rfl (lv_at hl 1 rfl) ?_
          refine lv_iload_n G.hx G.hb (dcs_get dec_X4_take_1 4 rfl) rfl (lv_at hl 0 rfl) ?_
          refine lv_iconst (v := (1 : Int32)) G.hx G.hb (dcs_get dec_X4_take_1 5 rfl) (by decide) ?_
          refine lv_iadd G.hx G.hb (dcs_get dec_X4_take_1 6 rfl) ?_
          obtain ⟨σ13, e_σ13, hf⟩ := cL_some hf
          refine r_puti (k := 4) cls4 ct4 fi_4_4.1 fi_4_4.2 fp_4_4.1 fp_4_4.2 q_201 rfl rfl G w k_a0.1 k_a0.2 (dcs_get dec_X4_take_1 7 rfl) (fun H locs w => ?_)
          have w := Wd.nm e_σ13 w
          refine lv_aload_n G.hx G.hb (dcs_get dec_X4_take_1 8 rfl) rfl (lv_at hl 1 rfl) ?_
          obtain ⟨z14, e_z14, ok_z14, hf⟩ := cR_some hf
          have k_z14 := okr_in ok_z14
          refine r_getr (k := 0) cls4 fi_4_0.1 fi_4_0.2 q_197 G w k_a0.1 k_a0.2 e_z14 (dcs_get dec_X4_take_1 9 rfl) ?_
          obtain ⟨z15, e_z15, ok_z15, hf⟩ := cR_some hf
          have k_z15 := okr_in ok_z15
          refine r_getrN (k := 2) cls8 fi_8_2.1 fi_8_2.2 nf_189 G w k_z14.1 k_z14.2 e_z15 (dcs_get dec_X4_take_1 10 rfl) ?_
          refine lv_iload_n G.hx G.hb (dcs_get dec_X4_take_1 11 rfl) rfl (lv_at hl 0 rfl) ?_
          obtain ⟨h16, hf⟩ := cG_some hf
          refine r_lald G w k_z15.1 k_z15.2 h16 (dcs_get dec_X4_take_1 12 rfl) ?_
          have e9 := Option.some.inj hf
          exact r_lret G w hm (congrArg Prod.fst e9) (congrArg Prod.snd e9) (dcs_get dec_X4_take_1 13 rfl)
        · rw [if_neg hc] at hf
          exact B_X4_take_44 a0 l1 v9 σ G hm ok_a0 hf  w (lv_sub hl [1, 2, 0] rfl)
    · rw [if_neg hc] at hf
      exact B_X4_take_17  σ G hm  hf  w (lv_sub hl [] rfl)
end
set_option maxRecDepth 100000 in
set_option maxHeartbeats 4000000 in
theorem C_X4_take {l : Launch} {D : va_G} {ay : Nat → ClassId} {ad : Nat → Nat} (hi : hInj NC ad) (a0 : Nat) (l1 : Int32) (σ : hSt) {r0 : Int64} {σ0 : hSt} (hf : F_X4_take a0 l1 σ = some (r0, σ0)) (ok_a0 : okr kC NC 4 a0 = true) : hM l D ay kC NC ad yX4_take cX4_take 3 ((some .long)) (rmK 0 0) [.ref (ad a0), .int l1] σ (cJ D ay kC NC ad r0 σ0) := by
  refine hM_in (by decide) hi (Nat.le_of_ble_eq_true rfl) ?_
  intro p e s m below meth c G hm w ls hl
  exact B_X4_take_0 a0 l1 σ G hm ok_a0 hf w (lv_sub hl [0, 1] rfl)

/-! HillDrums.Reader.indexOf(J[JI)I -/
def DL_X4_indexOf_0 : List (Nat × Instr × Nat) := [(0, .iconst 0, 1), (1, .istore 4, 2), (3, .iload 4, 2), (5, .iload_n 3, 1), (6, .if_icmp .ge 28, 3), (9, .iload 4, 2), (11, .aload_n 2, 1), (12, .arraylength, 1), (13, .if_icmp .ge 21, 3), (16, .aload_n 2, 1), (17, .iload 4, 2), (19, .laload, 1), (20, .lload_n 0, 1), (21, .lcmp, 1), (22, .ifCond .ne 6, 3), (25, .iload 4, 2), (27, .ireturn, 1), (28, .iinc 4 1, 3), (31, .goto (-28), 3), (34, .iconst (-1), 1), (35, .ireturn, 1)]
set_option maxRecDepth 100000 in
theorem dec_X4_indexOf_0 : dcs cX4_indexOf DL_X4_indexOf_0 = true := by decide +kernel
theorem lb_X4_indexOf : lkB yX4_indexOf cX4_indexOf 5 ((some .int)) 3 := ⟨q_623, q_6, ⟨by decide, by decide⟩, by decide +kernel⟩
def F_X4_indexOf_34  (σ : hSt) : Option (Int32) :=
some ((-1 : Int32))
def F_X4_indexOf_3b (l0 : Int64) (a2 : Nat) (l3 : Int32) (l4 : Int32) (σ : hSt) : Option ((Int32) ⊕ (Int32)) :=
if l3 ≤ l4 then (
(F_X4_indexOf_34  σ).map (fun x => .inr (x))) else (
if (Int32.ofNat (kC a2).2) ≤ l4 then (
(F_X4_indexOf_34  σ).map (fun x => .inr (x))) else (
cG (inb l4 (kC a2).2) <|
if (lg_cmp (σ.2.1 a2 l4.toNatClampNeg) l0) = 0 then (
some (.inr (l4))) else (
cL (l4 + (1 : Int32)) fun v2 =>
some (.inl (v2)))))
def S_X4_indexOf_3 (l0 : Int64) (a2 : Nat) (l3 : Int32) (σ : hSt) (v : Int32) : Option ((Int32) ⊕ (Int32)) := F_X4_indexOf_3b l0 a2 l3 v σ
def F_X4_indexOf_3 (l0 : Int64) (a2 : Nat) (l3 : Int32) (l4 : Int32) (σ : hSt) : Option (Int32) := lp (S_X4_indexOf_3 l0 a2 l3 σ) fuel (l4)
def F_X4_indexOf (l0 : Int64) (a2 : Nat) (l3 : Int32) (σ : hSt) : Option (Int32) :=
F_X4_indexOf_3 l0 a2 l3 (0 : Int32) σ
section
variable {p : Program} {l : Launch} {e : Env} {s : State} {m : MethodId} {args : Array Value} {below : List Frame} {meth : Method} {c : Code} {D : va_G} {ay : Nat → ClassId} {ad : Nat → Nat}
set_option maxRecDepth 100000 in
set_option maxHeartbeats 4000000 in
theorem B_X4_indexOf_34 {H : Heap} {locs : List Loc} {ls : Array Slot} {r0 : Int32}  (σ : hSt) (G : Gx p m c cX4_indexOf 5 s args RX4 D ay NC ad (aN NC ad)) (hm : meth.sig.returnType = (some .int) ∧ meth.locks = false)  (hf : F_X4_indexOf_34  σ = some r0)  (w : Wd D ay kC NC ad (aN NC ad) s σ H locs) (hl : lv_has ls 5 []) : W p l e (rmK 0 0) s m args below meth c H locs 0 0 (MQ below (cI D ay kC NC ad r0 σ) args s 0 0 (aN NC ad)) (F0 m 34 ls []) := by
  unfold F_X4_indexOf_34 at hf
  refine lv_iconst (v := (-1 : Int32)) G.hx G.hb (dcs_get dec_X4_indexOf_0 19 rfl) (by decide) ?_
  have e9 := Option.some.inj hf
  exact r_iret G w hm e9 rfl (dcs_get dec_X4_indexOf_0 20 rfl)
set_option maxRecDepth 100000 in
set_option maxHeartbeats 4000000 in
theorem B_X4_indexOf_3b {H : Heap} {locs : List Loc} {ls : Array Slot} {r0 : Int32} {o : (Int32) ⊕ (Int32)} (l0 : Int64) (a2 : Nat) (l3 : Int32) (l4 : Int32) (σ : hSt) (G : Gx p m c cX4_indexOf 5 s args RX4 D ay NC ad (aN NC ad)) (hm : meth.sig.returnType = (some .int) ∧ meth.locks = false) (ok_a2 : okr kC NC 103 a2 = true) (hf : F_X4_indexOf_3b l0 a2 l3 l4 σ = some o) (hb0 : ∀ (v : Int32), o = .inl v → ∀ (H : Heap) (locs : List Loc) (ls : Array Slot), Wd D ay kC NC ad (aN NC ad) s σ H locs → lv_has ls 5 [(0, .long l0), (2, .ref (ad a2)), (3, .int l3), (4, .int v)] → W p l e (rmK 0 0) s m args below meth c H locs 0 0 (MQ below (cI D ay kC NC ad r0 σ) args s 0 0 (aN NC ad)) (F0 m 3 ls [])) (hr : ∀ x, o = .inr (x) → x = r0) (w : Wd D ay kC NC ad (aN NC ad) s σ H locs) (hl : lv_has ls 5 [(0, .long l0), (2, .ref (ad a2)), (3, .int l3), (4, .int l4)]) : W p l e (rmK 0 0) s m args below meth c H locs 0 0 (MQ below (cI D ay kC NC ad r0 σ) args s 0 0 (aN NC ad)) (F0 m 3 ls []) := by
  have k_a2 := okr_in ok_a2
  unfold F_X4_indexOf_3b at hf
  refine lv_iload G.hx G.hb (dcs_get dec_X4_indexOf_0 2 rfl) (lv_at hl 3 rfl) ?_
  refine lv_iload_n G.hx G.hb (dcs_get dec_X4_indexOf_0 3 rfl) rfl (lv_at hl 2 rfl) ?_
  refine lv_icmp_ge (tgt := 34) G.hx G.hb (dcs_get dec_X4_indexOf_0 4 rfl) (by decide) (fun hc => ?_) (fun hc => ?_)
  · rw [if_pos hc] at hf
    obtain ⟨x9, h9, e9⟩ := map_some_inv hf
    subst e9
    have e8 := hr _ rfl
    rw [e8] at h9
    exact B_X4_indexOf_34  σ G hm  h9 w (lv_sub hl [] rfl)
  · rw [if_neg hc] at hf
    refine lv_iload G.hx G.hb (dcs_get dec_X4_indexOf_0 5 rfl) (lv_at hl 3 rfl) ?_
    refine lv_aload_n G.hx G.hb (dcs_get dec_X4_indexOf_0 6 rfl) rfl (lv_at hl 1 rfl) ?_
    refine r_alen (t0 := 3) k_a2.2 (by decide) rfl G w k_a2.1 (dcs_get dec_X4_indexOf_0 7 rfl) ?_
    refine lv_icmp_ge (tgt := 34) G.hx G.hb (dcs_get dec_X4_indexOf_0 8 rfl) (by decide) (fun hc => ?_) (fun hc => ?_)
    · rw [if_pos hc] at hf
      obtain ⟨x9, h9, e9⟩ := map_some_inv hf
      subst e9
      have e8 := hr _ rfl
      rw [e8] at h9
      exact B_X4_indexOf_34  σ G hm  h9 w (lv_sub hl [] rfl)
    · rw [if_neg hc] at hf
      refine lv_aload_n G.hx G.hb (dcs_get dec_X4_indexOf_0 9 rfl) rfl (lv_at hl 1 rfl) ?_
      refine lv_iload G.hx G.hb (dcs_get dec_X4_indexOf_0 10 rfl) (lv_at hl 3 rfl) ?_
      obtain ⟨h1, hf⟩ := cG_some hf
      refine r_lald G w k_a2.1 k_a2.2 h1 (dcs_get dec_X4_indexOf_0 11 rfl) ?_
      refine lv_lload_n G.hx G.hb (dcs_get dec_X4_indexOf_0 12 rfl) rfl (lv_at hl 0 rfl) ?_
      refine W.lcmp G.hx G.hb (dcs_get dec_X4_indexOf_0 13 rfl) ?_
      refine lv_if_ne (tgt := 28) G.hx G.hb (dcs_get dec_X4_indexOf_0 14 rfl) (by decide) (fun hc => ?_) (fun hc => ?_)
      · rw [if_neg hc] at hf
        obtain ⟨v2, e_v2, hf⟩ := cL_some hf
        refine lv_iinc (v := v2) (lv' := [(4, .int v2), (0, .long l0), (2, .ref (ad a2)), (3, .int l3)]) G.hx G.hb (dcs_get dec_X4_indexOf_0 17 rfl) hl (k := 3) rfl (by rw [e_v2]; rfl) (by decide) rfl (fun ls hl => ?_)
        refine lv_goto (tgt := 3) G.hx G.hb (dcs_get dec_X4_indexOf_0 18 rfl) (by decide) ?_
        exact hb0 _ (Option.some.inj hf).symm _ _ _ w (lv_sub hl [1, 2, 3, 0] rfl)
      · rw [if_pos hc] at hf
        refine lv_iload G.hx G.hb (dcs_get dec_X4_indexOf_0 15 rfl) (lv_at hl 3 rfl) ?_
        have e9 := hr _ (Option.some.inj hf).symm
        exact r_iret G w hm e9 rfl (dcs_get dec_X4_indexOf_0 16 rfl)
set_option maxRecDepth 100000 in
set_option maxHeartbeats 4000000 in
theorem H_X4_indexOf_3 {r0 : Int32} (l0 : Int64) (a2 : Nat) (l3 : Int32) (σ : hSt) (G : Gx p m c cX4_indexOf 5 s args RX4 D ay NC ad (aN NC ad)) (hm : meth.sig.returnType = (some .int) ∧ meth.locks = false) (ok_a2 : okr kC NC 103 a2 = true)  : ∀ (k : Nat) (v : Int32), lp (S_X4_indexOf_3 l0 a2 l3 σ) k v = some r0 → ∀ (H : Heap) (locs : List Loc) (ls : Array Slot), Wd D ay kC NC ad (aN NC ad) s σ H locs → lv_has ls 5 [(0, .long l0), (2, .ref (ad a2)), (3, .int l3), (4, .int v)] → W p l e (rmK 0 0) s m args below meth c H locs 0 0 (MQ below (cI D ay kC NC ad r0 σ) args s 0 0 (aN NC ad)) (F0 m 3 ls []) := by
  intro k
  induction k with
  | zero => intro v hf; cases hf
  | succ k ih =>
    intro v hf H locs ls w hl
    obtain ⟨o1, h1, h2, h3⟩ := lp_some hf
    exact B_X4_indexOf_3b l0 a2 l3 v σ G hm ok_a2 h1  (fun v' e => ih v' (h2 v' e)) (fun x e => h3 x e) w hl
set_option maxRecDepth 100000 in
set_option maxHeartbeats 4000000 in
theorem B_X4_indexOf_3 {H : Heap} {locs : List Loc} {ls : Array Slot} {r0 : Int32} (l0 : Int64) (a2 : Nat) (l3 : Int32) (l4 : Int32) (σ : hSt) (G : Gx p m c cX4_indexOf 5 s args RX4 D ay NC ad (aN NC ad)) (hm : meth.sig.returnType = (some .int) ∧ meth.locks = false) (ok_a2 : okr kC NC 103 a2 = true) (hf : F_X4_indexOf_3 l0 a2 l3 l4 σ = some r0)  (w : Wd D ay kC NC ad (aN NC ad) s σ H locs) (hl : lv_has ls 5 [(0, .long l0), (2, .ref (ad a2)), (3, .int l3), (4, .int l4)]) : W p l e (rmK 0 0) s m args below meth c H locs 0 0 (MQ below (cI D ay kC NC ad r0 σ) args s 0 0 (aN NC ad)) (F0 m 3 ls []) := by
  unfold F_X4_indexOf_3 at hf
  exact H_X4_indexOf_3 l0 a2 l3 σ G hm ok_a2  fuel (l4) hf _ _ _ w hl
set_option maxRecDepth 100000 in
set_option maxHeartbeats 4000000 in
theorem B_X4_indexOf_0 {H : Heap} {locs : List Loc} {ls : Array Slot} {r0 : Int32} (l0 : Int64) (a2 : Nat) (l3 : Int32) (σ : hSt) (G : Gx p m c cX4_indexOf 5 s args RX4 D ay NC ad (aN NC ad)) (hm : meth.sig.returnType = (some .int) ∧ meth.locks = false) (ok_a2 : okr kC NC 103 a2 = true) (hf : F_X4_indexOf l0 a2 l3 σ = some r0)  (w : Wd D ay kC NC ad (aN NC ad) s σ H locs) (hl : lv_has ls 5 [(0, .long l0), (2, .ref (ad a2)), (3, .int l3)]) : W p l e (rmK 0 0) s m args below meth c H locs 0 0 (MQ below (cI D ay kC NC ad r0 σ) args s 0 0 (aN NC ad)) (F0 m 0 ls []) := by
  have k_a2 := okr_in ok_a2
  unfold F_X4_indexOf at hf
  refine lv_iconst (v := (0 : Int32)) G.hx G.hb (dcs_get dec_X4_indexOf_0 0 rfl) (by decide) ?_
  refine lv_istore (lv' := [(4, .int (0 : Int32)), (0, .long l0), (2, .ref (ad a2)), (3, .int l3)]) G.hx G.hb (dcs_get dec_X4_indexOf_0 1 rfl) hl (by decide) rfl (fun ls hl => ?_)
  exact B_X4_indexOf_3 l0 a2 l3 (0 : Int32) σ G hm ok_a2 hf  w (lv_sub hl [1, 2, 3, 0] rfl)
end
set_option maxRecDepth 100000 in
set_option maxHeartbeats 4000000 in
theorem C_X4_indexOf {l : Launch} {D : va_G} {ay : Nat → ClassId} {ad : Nat → Nat} (hi : hInj NC ad) (l0 : Int64) (a2 : Nat) (l3 : Int32) (σ : hSt) {r0 : Int32} (hf : F_X4_indexOf l0 a2 l3 σ = some r0) (ok_a2 : okr kC NC 103 a2 = true) : hM l D ay kC NC ad yX4_indexOf cX4_indexOf 5 ((some .int)) (rmK 0 0) [.long l0, .ref (ad a2), .int l3] σ (cI D ay kC NC ad r0 σ) := by
  refine hM_in (by decide) hi (Nat.le_of_ble_eq_true rfl) ?_
  intro p e s m below meth c G hm w ls hl
  exact B_X4_indexOf_0 l0 a2 l3 σ G hm ok_a2 hf w (lv_sub hl [0, 1, 2] rfl)

/-! HillDrums.Reader.mean(II)V -/
def DL_X4_mean_0 : List (Nat × Instr × Nat) := [(0, .aload_n 0, 1), (1, .getfield 35, 3), (4, .ifCond .ne 28, 3), (7, .iload_n 2, 1), (8, .sipush 401, 3), (11, .if_icmp .ge 21, 3), (14, .aload_n 0, 1), (15, .iload_n 1, 1), (16, .putfield 35, 3), (19, .aload_n 0, 1), (20, .aload_n 0, 1), (21, .getfield 12, 3), (24, .getfield 65, 3), (27, .iload_n 2, 1), (28, .iaload, 1), (29, .putfield 38, 3), (32, .return_, 1)]
set_option maxRecDepth 100000 in
theorem dec_X4_mean_0 : dcs cX4_mean DL_X4_mean_0 = true := by decide +kernel
theorem lb_X4_mean : lkB yX4_mean cX4_mean 3 (none) 2 := ⟨q_627, q_6, ⟨by decide, by decide⟩, by decide +kernel⟩
theorem lv_X4_mean : lkV yX4_mean := ⟨q_626, qs_18⟩
def F_X4_mean_32  (σ : hSt) : Option (hSt) :=
some (σ)
def F_X4_mean (a0 : Nat) (l1 : Int32) (l2 : Int32) (σ : hSt) : Option (hSt) :=
if (σ.1 a0 7) = 0 then (
if (401 : Int32) ≤ l2 then (
F_X4_mean_32  σ) else (
cL (uI σ a0 7 l1) fun σ1 =>
cR (σ1.2.2 a0 0) (okr kC NC 8) fun z2 =>
cR (σ1.2.2 z2 1) (okr kC NC 101) fun z3 =>
cG (inb l2 (kC z3).2) <|
cL (uI σ1 a0 8 (σ1.1 z3 l2.toNatClampNeg)) fun σ5 =>
F_X4_mean_32  σ5)) else (
F_X4_mean_32  σ)
section
variable {p : Program} {l : Launch} {e : Env} {s : State} {m : MethodId} {args : Array Value} {below : List Frame} {meth : Method} {c : Code} {D : va_G} {ay : Nat → ClassId} {ad : Nat → Nat}
set_option maxRecDepth 100000 in
set_option maxHeartbeats 4000000 in
theorem B_X4_mean_32 {H : Heap} {locs : List Loc} {ls : Array Slot} {σ0 : hSt}  (σ : hSt) (G : Gx p m c cX4_mean 3 s args RX4 D ay NC ad (aN NC ad)) (hm : meth.sig.returnType = none ∧ meth.locks = false)  (hf : F_X4_mean_32  σ = some σ0)  (w : Wd D ay kC NC ad (aN NC ad) s σ H locs) (hl : lv_has ls 3 []) : W p l e (rmK 0 0) s m args below meth c H locs 0 0 (MQ below (cV D ay kC NC ad σ0) args s 0 0 (aN NC ad)) (F0 m 32 ls []) := by
  unfold F_X4_mean_32 at hf
  have e9 := Option.some.inj hf
  exact r_vret G w hm e9 (dcs_get dec_X4_mean_0 16 rfl)
set_option maxRecDepth 100000 in
set_option maxHeartbeats 4000000 in
theorem B_X4_mean_0 {H : Heap} {locs : List Loc} {ls : Array Slot} {σ0 : hSt} (a0 : Nat) (l1 : Int32) (l2 : Int32) (σ : hSt) (G : Gx p m c cX4_mean 3 s args RX4 D ay NC ad (aN NC ad)) (hm : meth.sig.returnType = none ∧ meth.locks = false) (ok_a0 : okr kC NC 4 a0 = true) (hf : F_X4_mean a0 l1 l2 σ = some σ0)  (w : Wd D ay kC NC ad (aN NC ad) s σ H locs) (hl : lv_has ls 3 [(0, .ref (ad a0)), (1, .int l1), (2, .int l2)]) : W p l e (rmK 0 0) s m args below meth c H locs 0 0 (MQ below (cV D ay kC NC ad σ0) args s 0 0 (aN NC ad)) (F0 m 0 ls []) := by
  have k_a0 := okr_in ok_a0
  unfold F_X4_mean at hf
  refine lv_aload_n G.hx G.hb (dcs_get dec_X4_mean_0 0 rfl) rfl (lv_at hl 0 rfl) ?_
  refine r_geti (k := 7) cls4 fi_4_7.1 fi_4_7.2 q_206 G w k_a0.1 k_a0.2 (dcs_get dec_X4_mean_0 1 rfl) ?_
  refine lv_if_ne (tgt := 32) G.hx G.hb (dcs_get dec_X4_mean_0 2 rfl) (by decide) (fun hc => ?_) (fun hc => ?_)
  · rw [if_neg hc] at hf
    exact B_X4_mean_32  σ G hm  hf  w (lv_sub hl [] rfl)
  · rw [if_pos hc] at hf
    refine lv_iload_n G.hx G.hb (dcs_get dec_X4_mean_0 3 rfl) rfl (lv_at hl 2 rfl) ?_
    refine lv_sipush (v := (401 : Int32)) G.hx G.hb (dcs_get dec_X4_mean_0 4 rfl) (by decide) ?_
    refine lv_icmp_ge (tgt := 32) G.hx G.hb (dcs_get dec_X4_mean_0 5 rfl) (by decide) (fun hc => ?_) (fun hc => ?_)
    · rw [if_pos hc] at hf
      exact B_X4_mean_32  σ G hm  hf  w (lv_sub hl [] rfl)
    · rw [if_neg hc] at hf
      refine lv_aload_n G.hx G.hb (dcs_get dec_X4_mean_0 6 rfl) rfl (lv_at hl 0 rfl) ?_
      refine lv_iload_n G.hx G.hb (dcs_get dec_X4_mean_0 7 rfl) rfl (lv_at hl 1 rfl) ?_
      obtain ⟨σ1, e_σ1, hf⟩ := cL_some hf
      refine r_puti (k := 7) cls4 ct4 fi_4_7.1 fi_4_7.2 fp_4_7.1 fp_4_7.2 q_206 rfl rfl G w k_a0.1 k_a0.2 (dcs_get dec_X4_mean_0 8 rfl) (fun H locs w => ?_)
      have w := Wd.nm e_σ1 w
      refine lv_aload_n G.hx G.hb (dcs_get dec_X4_mean_0 9 rfl) rfl (lv_at hl 0 rfl) ?_
      refine lv_aload_n G.hx G.hb (dcs_get dec_X4_mean_0 10 rfl) rfl (lv_at hl 0 rfl) ?_
      obtain ⟨z2, e_z2, ok_z2, hf⟩ := cR_some hf
      have k_z2 := okr_in ok_z2
      refine r_getr (k := 0) cls4 fi_4_0.1 fi_4_0.2 q_197 G w k_a0.1 k_a0.2 e_z2 (dcs_get dec_X4_mean_0 11 rfl) ?_
      obtain ⟨z3, e_z3, ok_z3, hf⟩ := cR_some hf
      have k_z3 := okr_in ok_z3
      refine r_getrN (k := 1) cls8 fi_8_1.1 fi_8_1.2 nf_187 G w k_z2.1 k_z2.2 e_z3 (dcs_get dec_X4_mean_0 12 rfl) ?_
      refine lv_iload_n G.hx G.hb (dcs_get dec_X4_mean_0 13 rfl) rfl (lv_at hl 2 rfl) ?_
      obtain ⟨h4, hf⟩ := cG_some hf
      refine r_iald G w k_z3.1 k_z3.2 h4 (dcs_get dec_X4_mean_0 14 rfl) ?_
      obtain ⟨σ5, e_σ5, hf⟩ := cL_some hf
      refine r_puti (k := 8) cls4 ct4 fi_4_8.1 fi_4_8.2 fp_4_8.1 fp_4_8.2 q_207 rfl rfl G w k_a0.1 k_a0.2 (dcs_get dec_X4_mean_0 15 rfl) (fun H locs w => ?_)
      have w := Wd.nm e_σ5 w
      exact B_X4_mean_32  σ5 G hm  hf  w (lv_sub hl [] rfl)
end
set_option maxRecDepth 100000 in
set_option maxHeartbeats 4000000 in
theorem C_X4_mean {l : Launch} {D : va_G} {ay : Nat → ClassId} {ad : Nat → Nat} (hi : hInj NC ad) (a0 : Nat) (l1 : Int32) (l2 : Int32) (σ : hSt) {σ0 : hSt} (hf : F_X4_mean a0 l1 l2 σ = some σ0) (ok_a0 : okr kC NC 4 a0 = true) : hM l D ay kC NC ad yX4_mean cX4_mean 3 (none) (rmK 0 0) [.ref (ad a0), .int l1, .int l2] σ (cV D ay kC NC ad σ0) := by
  refine hM_in (by decide) hi (Nat.le_of_ble_eq_true rfl) ?_
  intro p e s m below meth c G hm w ls hl
  exact B_X4_mean_0 a0 l1 l2 σ G hm ok_a0 hf w (lv_sub hl [0, 1, 2] rfl)

/-! HillDrums.Reader.takeNewName()J -/
def DL_X4_takeNewName_0 : List (Nat × Instr × Nat) := [(0, .aload_n 0, 1), (1, .iconst 2, 1), (2, .invokevirtual 71, 3), (5, .lstore_n 1, 1), (6, .lload_n 1, 1), (7, .aload_n 0, 1), (8, .getfield 18, 3), (11, .aload_n 0, 1), (12, .getfield 41, 3), (15, .getfield 79, 3), (18, .invokestatic 82, 3), (21, .iconst (-1), 1), (22, .if_icmp .ne 22, 3), (25, .lload_n 1, 1), (26, .aload_n 0, 1), (27, .getfield 22, 3), (30, .aload_n 0, 1), (31, .getfield 41, 3), (34, .getfield 86, 3), (37, .invokestatic 82, 3), (40, .iconst (-1), 1), (41, .if_icmp .eq 7, 3), (44, .iconst 1, 1), (45, .goto 4, 3), (48, .iconst 0, 1), (49, .istore_n 3, 1), (50, .aload_n 0, 1), (51, .getfield 29, 3), (54, .ifCond .ne 18, 3), (57, .iload_n 3, 1), (58, .ifCond .eq 14, 3), (61, .aload_n 0, 1), (62, .iconst 3, 1), (63, .aload_n 0, 1), (64, .getfield 25, 3), (67, .iconst 1, 1), (68, .isub, 1), (69, .invokevirtual 75, 3), (72, .lload_n 1, 1), (73, .lreturn, 1)]
set_option maxRecDepth 100000 in
theorem dec_X4_takeNewName_0 : dcs cX4_takeNewName DL_X4_takeNewName_0 = true := by decide +kernel
theorem lb_X4_takeNewName : lkB yX4_takeNewName cX4_takeNewName 4 ((some .long)) 0 := ⟨q_620, q_6, ⟨by decide, by decide⟩, by decide +kernel⟩
theorem lv_X4_takeNewName : lkV yX4_takeNewName := ⟨q_619, qs_17⟩
def F_X4_takeNewName_72 (l1 : Int64) (σ : hSt) : Option (Int64 × hSt) :=
some ((l1, σ))
def F_X4_takeNewName_49 (a0 : Nat) (l1 : Int64) (s0 : Int32) (σ : hSt) : Option (Int64 × hSt) :=
if (σ.1 a0 5) = 0 then (
if s0 = 0 then (
F_X4_takeNewName_72 l1 σ) else (
(F_X4_mean a0 (3 : Int32) ((σ.1 a0 4) - (1 : Int32)) σ).bind fun σ2 =>
F_X4_takeNewName_72 l1 σ2)) else (
F_X4_takeNewName_72 l1 σ)
def F_X4_takeNewName_44 (a0 : Nat) (l1 : Int64) (σ : hSt) : Option (Int64 × hSt) :=
F_X4_takeNewName_49 a0 l1 (1 : Int32) σ
def F_X4_takeNewName (a0 : Nat) (σ : hSt) : Option (Int64 × hSt) :=
cC (F_X4_take a0 (2 : Int32) σ) fun v4 σ5 =>
cR (σ5.2.2 a0 1) (okr kC NC 103) fun z6 =>
cR (σ5.2.2 a0 3) (okr kC NC 7) fun z7 =>
(F_X4_indexOf v4 z6 (σ5.1 z7 0) σ5).bind fun v9 =>
if v9 = (-1 : Int32) then (
cR (σ5.2.2 a0 2) (okr kC NC 103) fun z10 =>
cR (σ5.2.2 a0 3) (okr kC NC 7) fun z11 =>
(F_X4_indexOf v4 z10 (σ5.1 z11 3) σ5).bind fun v13 =>
if v13 = (-1 : Int32) then (
F_X4_takeNewName_49 a0 v4 (0 : Int32) σ5) else (
F_X4_takeNewName_44 a0 v4 σ5)) else (
F_X4_takeNewName_44 a0 v4 σ5)
section
variable {p : Program} {l : Launch} {e : Env} {s : State} {m : MethodId} {args : Array Value} {below : List Frame} {meth : Method} {c : Code} {D : va_G} {ay : Nat → ClassId} {ad : Nat → Nat}
set_option maxRecDepth 100000 in
set_option maxHeartbeats 4000000 in
theorem B_X4_takeNewName_72 {H : Heap} {locs : List Loc} {ls : Array Slot} {r0 : Int64} {σ0 : hSt} (l1 : Int64) (σ : hSt) (G : Gx p m c cX4_takeNewName 4 s args RX4 D ay NC ad (aN NC ad)) (hm : meth.sig.returnType = (some .long) ∧ meth.locks = false)  (hf : F_X4_takeNewName_72 l1 σ = some (r0, σ0))  (w : Wd D ay kC NC ad (aN NC ad) s σ H locs) (hl : lv_has ls 4 [(1, .long l1)]) : W p l e (rmK 1 24) s m args below meth c H locs 0 0 (MQ below (cJ D ay kC NC ad r0 σ0) args s 0 0 (aN NC ad)) (F0 m 72 ls []) := by
  unfold F_X4_takeNewName_72 at hf
  refine lv_lload_n G.hx G.hb (dcs_get dec_X4_takeNewName_0 38 rfl) rfl (lv_at hl 0 rfl) ?_
  have e9 := Option.some.inj hf
  exact r_lret G w hm (congrArg Prod.fst e9) (congrArg Prod.snd e9) (dcs_get dec_X4_takeNewName_0 39 rfl)
set_option maxRecDepth 100000 in
set_option maxHeartbeats 4000000 in
theorem B_X4_takeNewName_49 {H : Heap} {locs : List Loc} {ls : Array Slot} {r0 : Int64} {σ0 : hSt} (a0 : Nat) (l1 : Int64) (s0 : Int32) (σ : hSt) (G : Gx p m c cX4_takeNewName 4 s args RX4 D ay NC ad (aN NC ad)) (hm : meth.sig.returnType = (some .long) ∧ meth.locks = false) (ok_a0 : okr kC NC 4 a0 = true) (hf : F_X4_takeNewName_49 a0 l1 s0 σ = some (r0, σ0))  (w : Wd D ay kC NC ad (aN NC ad) s σ H locs) (hl : lv_has ls 4 [(0, .ref (ad a0)), (1, .long l1)]) : W p l e (rmK 1 24) s m args below meth c H locs 0 0 (MQ below (cJ D ay kC NC ad r0 σ0) args s 0 0 (aN NC ad)) (F0 m 49 ls [.int s0]) := by
  have k_a0 := okr_in ok_a0
  unfold F_X4_takeNewName_49 at hf
  refine lv_istore_n (lv' := [(3, .int s0), (0, .ref (ad a0)), (1, .long l1)]) G.hx G.hb (dcs_get dec_X4_takeNewName_0 25 rfl) rfl hl (by decide) rfl (fun ls hl => ?_)
  refine lv_aload_n G.hx G.hb (dcs_get dec_X4_takeNewName_0 26 rfl) rfl (lv_at hl 1 rfl) ?_
  refine r_geti (k := 5) cls4 fi_4_5.1 fi_4_5.2 q_202 G w k_a0.1 k_a0.2 (dcs_get dec_X4_takeNewName_0 27 rfl) ?_
  refine lv_if_ne (tgt := 72) G.hx G.hb (dcs_get dec_X4_takeNewName_0 28 rfl) (by decide) (fun hc => ?_) (fun hc => ?_)
  · rw [if_neg hc] at hf
    exact B_X4_takeNewName_72 l1 σ G hm  hf  w (lv_sub hl [2] rfl)
  · rw [if_pos hc] at hf
    refine lv_iload_n G.hx G.hb (dcs_get dec_X4_takeNewName_0 29 rfl) rfl (lv_at hl 0 rfl) ?_
    refine lv_if_eq (tgt := 72) G.hx G.hb (dcs_get dec_X4_takeNewName_0 30 rfl) (by decide) (fun hc => ?_) (fun hc => ?_)
    · rw [if_pos hc] at hf
      exact B_X4_takeNewName_72 l1 σ G hm  hf  w (lv_sub hl [2] rfl)
    · rw [if_neg hc] at hf
      refine lv_aload_n G.hx G.hb (dcs_get dec_X4_takeNewName_0 31 rfl) rfl (lv_at hl 1 rfl) ?_
      refine lv_iconst (v := (3 : Int32)) G.hx G.hb (dcs_get dec_X4_takeNewName_0 32 rfl) (by decide) ?_
      refine lv_aload_n G.hx G.hb (dcs_get dec_X4_takeNewName_0 33 rfl) rfl (lv_at hl 1 rfl) ?_
      refine r_geti (k := 4) cls4 fi_4_4.1 fi_4_4.2 q_201 G w k_a0.1 k_a0.2 (dcs_get dec_X4_takeNewName_0 34 rfl) ?_
      refine lv_iconst (v := (1 : Int32)) G.hx G.hb (dcs_get dec_X4_takeNewName_0 35 rfl) (by decide) ?_
      refine lv_isub G.hx G.hb (dcs_get dec_X4_takeNewName_0 36 rfl) ?_
      obtain ⟨σ2, h1, hf⟩ := cB_some hf
      refine a_v (k_V (As := [.int (3 : Int32), .int ((σ.1 a0 4) - (1 : Int32))]) (rest := []) cls4 lb_X4_mean lv_X4_mean q_624 (C_X4_mean G.2.2.1 a0 (3 : Int32) ((σ.1 a0 4) - (1 : Int32)) σ h1 ok_a0) ⟨(Nat.le_of_ble_eq_true rfl), (Nat.le_of_ble_eq_true rfl)⟩ G w k_a0.1 k_a0.2 rfl rfl hl.1 (Nat.le_of_ble_eq_true rfl) (dcs_get dec_X4_takeNewName_0 37 rfl) ⟨Nat.le_refl _, Nat.le_refl _⟩) G w (fun H locs w => ?_)
      exact B_X4_takeNewName_72 l1 σ2 G hm  hf  w (lv_sub hl [2] rfl)
set_option maxRecDepth 100000 in
set_option maxHeartbeats 4000000 in
theorem B_X4_takeNewName_44 {H : Heap} {locs : List Loc} {ls : Array Slot} {r0 : Int64} {σ0 : hSt} (a0 : Nat) (l1 : Int64) (σ : hSt) (G : Gx p m c cX4_takeNewName 4 s args RX4 D ay NC ad (aN NC ad)) (hm : meth.sig.returnType = (some .long) ∧ meth.locks = false) (ok_a0 : okr kC NC 4 a0 = true) (hf : F_X4_takeNewName_44 a0 l1 σ = some (r0, σ0))  (w : Wd D ay kC NC ad (aN NC ad) s σ H locs) (hl : lv_has ls 4 [(0, .ref (ad a0)), (1, .long l1)]) : W p l e (rmK 1 24) s m args below meth c H locs 0 0 (MQ below (cJ D ay kC NC ad r0 σ0) args s 0 0 (aN NC ad)) (F0 m 44 ls []) := by
  have k_a0 := okr_in ok_a0
  unfold F_X4_takeNewName_44 at hf
  refine lv_iconst (v := (1 : Int32)) G.hx G.hb (dcs_get dec_X4_takeNewName_0 22 rfl) (by decide) ?_
  refine lv_goto (tgt := 49) G.hx G.hb (dcs_get dec_X4_takeNewName_0 23 rfl) (by decide) ?_
  exact B_X4_takeNewName_49 a0 l1 (1 : Int32) σ G hm ok_a0 hf  w (lv_sub hl [0, 1] rfl)
set_option maxRecDepth 100000 in
set_option maxHeartbeats 4000000 in
theorem B_X4_takeNewName_0 {H : Heap} {locs : List Loc} {ls : Array Slot} {r0 : Int64} {σ0 : hSt} (a0 : Nat) (σ : hSt) (G : Gx p m c cX4_takeNewName 4 s args RX4 D ay NC ad (aN NC ad)) (hm : meth.sig.returnType = (some .long) ∧ meth.locks = false) (ok_a0 : okr kC NC 4 a0 = true) (hf : F_X4_takeNewName a0 σ = some (r0, σ0))  (w : Wd D ay kC NC ad (aN NC ad) s σ H locs) (hl : lv_has ls 4 [(0, .ref (ad a0))]) : W p l e (rmK 1 24) s m args below meth c H locs 0 0 (MQ below (cJ D ay kC NC ad r0 σ0) args s 0 0 (aN NC ad)) (F0 m 0 ls []) := by
  have k_a0 := okr_in ok_a0
  unfold F_X4_takeNewName at hf
  refine lv_aload_n G.hx G.hb (dcs_get dec_X4_takeNewName_0 0 rfl) rfl (lv_at hl 0 rfl) ?_
  refine lv_iconst (v := (2 : Int32)) G.hx G.hb (dcs_get dec_X4_takeNewName_0 1 rfl) (by decide) ?_
  obtain ⟨v4, σ5, h3, hf⟩ := cC_some hf
  refine a_l (k_V (As := [.int (2 : Int32)]) (rest := []) cls4 lb_X4_take lv_X4_take q_613 (C_X4_take G.2.2.1 a0 (2 : Int32) σ h3 ok_a0) ⟨(Nat.le_of_ble_eq_true rfl), (Nat.le_of_ble_eq_true rfl)⟩ G w k_a0.1 k_a0.2 rfl rfl hl.1 (Nat.le_of_ble_eq_true rfl) (dcs_get dec_X4_takeNewName_0 2 rfl) ⟨Nat.le_refl _, Nat.le_refl _⟩) G w (fun H locs w => ?_)
  refine lv_lstore_n (lv' := [(1, .long v4), (0, .ref (ad a0))]) G.hx G.hb (dcs_get dec_X4_takeNewName_0 3 rfl) rfl hl (by decide) rfl (fun ls hl => ?_)
  refine lv_lload_n G.hx G.hb (dcs_get dec_X4_takeNewName_0 4 rfl) rfl (lv_at hl 0 rfl) ?_
  refine lv_aload_n G.hx G.hb (dcs_get dec_X4_takeNewName_0 5 rfl) rfl (lv_at hl 1 rfl) ?_
  obtain ⟨z6, e_z6, ok_z6, hf⟩ := cR_some hf
  have k_z6 := okr_in ok_z6
  refine r_getr (k := 1) cls4 fi_4_1.1 fi_4_1.2 q_198 G w k_a0.1 k_a0.2 e_z6 (dcs_get dec_X4_takeNewName_0 6 rfl) ?_
  refine lv_aload_n G.hx G.hb (dcs_get dec_X4_takeNewName_0 7 rfl) rfl (lv_at hl 1 rfl) ?_
  obtain ⟨z7, e_z7, ok_z7, hf⟩ := cR_some hf
  have k_z7 := okr_in ok_z7
  refine r_getr (k := 3) cls4 fi_4_3.1 fi_4_3.2 q_200 G w k_a0.1 k_a0.2 e_z7 (dcs_get dec_X4_takeNewName_0 8 rfl) ?_
  refine r_getiN (k := 0) cls7 fi_7_0.1 fi_7_0.2 nf_95 G w k_z7.1 k_z7.2 (dcs_get dec_X4_takeNewName_0 9 rfl) ?_
  obtain ⟨v9, h8, hf⟩ := cB_some hf
  refine a_i (k_S (As := [.long v4, .ref (ad z6), .int (σ5.1 z7 0)]) (rest := []) lb_X4_indexOf q_622 q_621 (C_X4_indexOf G.2.2.1 v4 z6 (σ5.1 z7 0) σ5 h8 ok_z6) ⟨(Nat.le_of_ble_eq_true rfl), (Nat.le_of_ble_eq_true rfl)⟩ G w rfl rfl hl.1 (Nat.le_of_ble_eq_true rfl) (dcs_get dec_X4_takeNewName_0 10 rfl) ⟨Nat.le_refl _, Nat.le_refl _⟩) G w (fun H locs w => ?_)
  refine lv_iconst (v := (-1 : Int32)) G.hx G.hb (dcs_get dec_X4_takeNewName_0 11 rfl) (by decide) ?_
  refine lv_icmp_ne (tgt := 44) G.hx G.hb (dcs_get dec_X4_takeNewName_0 12 rfl) (by decide) (fun hc => ?_) (fun hc => ?_)
  · rw [if_neg hc] at hf
    exact B_X4_takeNewName_44 a0 v4 σ5 G hm ok_a0 hf  w (lv_sub hl [1, 0] rfl)
  · rw [if_pos hc] at hf
    refine lv_lload_n G.hx G.hb (dcs_get dec_X4_takeNewName_0 13 rfl) rfl (lv_at hl 0 rfl) ?_
    refine lv_aload_n G.hx G.hb (dcs_get dec_X4_takeNewName_0 14 rfl) rfl (lv_at hl 1 rfl) ?_
    obtain ⟨z10, e_z10, ok_z10, hf⟩ := cR_some hf
    have k_z10 := okr_in ok_z10
    refine r_getr (k := 2) cls4 fi_4_2.1 fi_4_2.2 q_199 G w k_a0.1 k_a0.2 e_z10 (dcs_get dec_X4_takeNewName_0 15 rfl) ?_
    refine lv_aload_n G.hx G.hb (dcs_get dec_X4_takeNewName_0 16 rfl) rfl (lv_at hl 1 rfl) ?_
    obtain ⟨z11, e_z11, ok_z11, hf⟩ := cR_some hf
    have k_z11 := okr_in ok_z11
    refine r_getr (k := 3) cls4 fi_4_3.1 fi_4_3.2 q_200 G w k_a0.1 k_a0.2 e_z11 (dcs_get dec_X4_takeNewName_0 17 rfl) ?_
    refine r_getiN (k := 3) cls7 fi_7_3.1 fi_7_3.2 nf_105 G w k_z11.1 k_z11.2 (dcs_get dec_X4_takeNewName_0 18 rfl) ?_
    obtain ⟨v13, h12, hf⟩ := cB_some hf
    refine a_i (k_S (As := [.long v4, .ref (ad z10), .int (σ5.1 z11 3)]) (rest := []) lb_X4_indexOf q_622 q_621 (C_X4_indexOf G.2.2.1 v4 z10 (σ5.1 z11 3) σ5 h12 ok_z10) ⟨(Nat.le_of_ble_eq_true rfl), (Nat.le_of_ble_eq_true rfl)⟩ G w rfl rfl hl.1 (Nat.le_of_ble_eq_true rfl) (dcs_get dec_X4_takeNewName_0 19 rfl) ⟨Nat.le_refl _, Nat.le_refl _⟩) G w (fun H locs w => ?_)
    refine lv_iconst (v := (-1 : Int32)) G.hx G.hb (dcs_get dec_X4_takeNewName_0 20 rfl) (by decide) ?_
    refine lv_icmp_eq (tgt := 48) G.hx G.hb (dcs_get dec_X4_takeNewName_0 21 rfl) (by decide) (fun hc => ?_) (fun hc => ?_)
    · rw [if_pos hc] at hf
      refine lv_iconst (v := (0 : Int32)) G.hx G.hb (dcs_get dec_X4_takeNewName_0 24 rfl) (by decide) ?_
      exact B_X4_takeNewName_49 a0 v4 (0 : Int32) σ5 G hm ok_a0 hf  w (lv_sub hl [1, 0] rfl)
    · rw [if_neg hc] at hf
      exact B_X4_takeNewName_44 a0 v4 σ5 G hm ok_a0 hf  w (lv_sub hl [1, 0] rfl)
end
set_option maxRecDepth 100000 in
set_option maxHeartbeats 4000000 in
theorem C_X4_takeNewName {l : Launch} {D : va_G} {ay : Nat → ClassId} {ad : Nat → Nat} (hi : hInj NC ad) (a0 : Nat) (σ : hSt) {r0 : Int64} {σ0 : hSt} (hf : F_X4_takeNewName a0 σ = some (r0, σ0)) (ok_a0 : okr kC NC 4 a0 = true) : hM l D ay kC NC ad yX4_takeNewName cX4_takeNewName 4 ((some .long)) (rmK 1 24) [.ref (ad a0)] σ (cJ D ay kC NC ad r0 σ0) := by
  refine hM_in (by decide) hi (Nat.le_of_ble_eq_true rfl) ?_
  intro p e s m below meth c G hm w ls hl
  exact B_X4_takeNewName_0 a0 σ G hm ok_a0 hf w (lv_sub hl [0] rfl)

/-! HillDrums.Reader.takeNumber(II)I -/
def DL_X4_takeNumber_0 : List (Nat × Instr × Nat) := [(0, .aload_n 0, 1), (1, .iconst 3, 1), (2, .invokevirtual 71, 3), (5, .l2i, 1), (6, .istore_n 3, 1), (7, .aload_n 0, 1), (8, .getfield 29, 3), (11, .ifCond .ne 24, 3), (14, .iload_n 3, 1), (15, .iload_n 1, 1), (16, .if_icmp .lt 8, 3), (19, .iload_n 3, 1), (20, .iload_n 2, 1), (21, .if_icmp .le 14, 3), (24, .aload_n 0, 1), (25, .iconst 5, 1), (26, .aload_n 0, 1), (27, .getfield 25, 3), (30, .iconst 1, 1), (31, .isub, 1), (32, .invokevirtual 75, 3), (35, .iload_n 3, 1), (36, .ireturn, 1)]
set_option maxRecDepth 100000 in
theorem dec_X4_takeNumber_0 : dcs cX4_takeNumber DL_X4_takeNumber_0 = true := by decide +kernel
theorem lb_X4_takeNumber : lkB yX4_takeNumber cX4_takeNumber 4 ((some .int)) 2 := ⟨q_631, q_6, ⟨by decide, by decide⟩, by decide +kernel⟩
theorem lv_X4_takeNumber : lkV yX4_takeNumber := ⟨q_630, qs_19⟩
def F_X4_takeNumber_35 (l3 : Int32) (σ : hSt) : Option (Int32 × hSt) :=
some ((l3, σ))
def F_X4_takeNumber_24 (a0 : Nat) (l3 : Int32) (σ : hSt) : Option (Int32 × hSt) :=
(F_X4_mean a0 (5 : Int32) ((σ.1 a0 4) - (1 : Int32)) σ).bind fun σ2 =>
F_X4_takeNumber_35 l3 σ2
def F_X4_takeNumber (a0 : Nat) (l1 : Int32) (l2 : Int32) (σ : hSt) : Option (Int32 × hSt) :=
cC (F_X4_take a0 (3 : Int32) σ) fun v4 σ5 =>
cL (v4.toInt32) fun v6 =>
if (σ5.1 a0 5) = 0 then (
if v6 < l1 then (
F_X4_takeNumber_24 a0 v6 σ5) else (
if v6 ≤ l2 then (
F_X4_takeNumber_35 v6 σ5) else (
F_X4_takeNumber_24 a0 v6 σ5))) else (
F_X4_takeNumber_35 v6 σ5)
section
variable {p : Program} {l : Launch} {e : Env} {s : State} {m : MethodId} {args : Array Value} {below : List Frame} {meth : Method} {c : Code} {D : va_G} {ay : Nat → ClassId} {ad : Nat → Nat}
set_option maxRecDepth 100000 in
set_option maxHeartbeats 4000000 in
theorem B_X4_takeNumber_35 {H : Heap} {locs : List Loc} {ls : Array Slot} {r0 : Int32} {σ0 : hSt} (l3 : Int32) (σ : hSt) (G : Gx p m c cX4_takeNumber 4 s args RX4 D ay NC ad (aN NC ad)) (hm : meth.sig.returnType = (some .int) ∧ meth.locks = false)  (hf : F_X4_takeNumber_35 l3 σ = some (r0, σ0))  (w : Wd D ay kC NC ad (aN NC ad) s σ H locs) (hl : lv_has ls 4 [(3, .int l3)]) : W p l e (rmK 1 22) s m args below meth c H locs 0 0 (MQ below (cI D ay kC NC ad r0 σ0) args s 0 0 (aN NC ad)) (F0 m 35 ls []) := by
  unfold F_X4_takeNumber_35 at hf
  refine lv_iload_n G.hx G.hb (dcs_get dec_X4_takeNumber_0 21 rfl) rfl (lv_at hl 0 rfl) ?_
  have e9 := Option.some.inj hf
  exact r_iret G w hm (congrArg Prod.fst e9) (congrArg Prod.snd e9) (dcs_get dec_X4_takeNumber_0 22 rfl)
set_option maxRecDepth 100000 in
set_option maxHeartbeats 4000000 in
theorem B_X4_takeNumber_24 {H : Heap} {locs : List Loc} {ls : Array Slot} {r0 : Int32} {σ0 : hSt} (a0 : Nat) (l3 : Int32) (σ : hSt) (G : Gx p m c cX4_takeNumber 4 s args RX4 D ay NC ad (aN NC ad)) (hm : meth.sig.returnType = (some .int) ∧ meth.locks = false) (ok_a0 : okr kC NC 4 a0 = true) (hf : F_X4_takeNumber_24 a0 l3 σ = some (r0, σ0))  (w : Wd D ay kC NC ad (aN NC ad) s σ H locs) (hl : lv_has ls 4 [(0, .ref (ad a0)), (3, .int l3)]) : W p l e (rmK 1 22) s m args below meth c H locs 0 0 (MQ below (cI D ay kC NC ad r0 σ0) args s 0 0 (aN NC ad)) (F0 m 24 ls []) := by
  have k_a0 := okr_in ok_a0
  unfold F_X4_takeNumber_24 at hf
  refine lv_aload_n G.hx G.hb (dcs_get dec_X4_takeNumber_0 14 rfl) rfl (lv_at hl 0 rfl) ?_
  refine lv_iconst (v := (5 : Int32)) G.hx G.hb (dcs_get dec_X4_takeNumber_0 15 rfl) (by decide) ?_
  refine lv_aload_n G.hx G.hb (dcs_get dec_X4_takeNumber_0 16 rfl) rfl (lv_at hl 0 rfl) ?_
  refine r_geti (k := 4) cls4 fi_4_4.1 fi_4_4.2 q_201 G w k_a0.1 k_a0.2 (dcs_get dec_X4_takeNumber_0 17 rfl) ?_
  refine lv_iconst (v := (1 : Int32)) G.hx G.hb (dcs_get dec_X4_takeNumber_0 18 rfl) (by decide) ?_
  refine lv_isub G.hx G.hb (dcs_get dec_X4_takeNumber_0 19 rfl) ?_
  obtain ⟨σ2, h1, hf⟩ := cB_some hf
  refine a_v (k_V (As := [.int (5 : Int32), .int ((σ.1 a0 4) - (1 : Int32))]) (rest := []) cls4 lb_X4_mean lv_X4_mean q_624 (C_X4_mean G.2.2.1 a0 (5 : Int32) ((σ.1 a0 4) - (1 : Int32)) σ h1 ok_a0) ⟨(Nat.le_of_ble_eq_true rfl), (Nat.le_of_ble_eq_true rfl)⟩ G w k_a0.1 k_a0.2 rfl rfl hl.1 (Nat.le_of_ble_eq_true rfl) (dcs_get dec_X4_takeNumber_0 20 rfl) ⟨Nat.le_refl _, Nat.le_refl _⟩) G w (fun H locs w => ?_)
  exact B_X4_takeNumber_35 l3 σ2 G hm  hf  w (lv_sub hl [1] rfl)
set_option maxRecDepth 100000 in
set_option maxHeartbeats 4000000 in
theorem B_X4_takeNumber_0 {H : Heap} {locs : List Loc} {ls : Array Slot} {r0 : Int32} {σ0 : hSt} (a0 : Nat) (l1 : Int32) (l2 : Int32) (σ : hSt) (G : Gx p m c cX4_takeNumber 4 s args RX4 D ay NC ad (aN NC ad)) (hm : meth.sig.returnType = (some .int) ∧ meth.locks = false) (ok_a0 : okr kC NC 4 a0 = true) (hf : F_X4_takeNumber a0 l1 l2 σ = some (r0, σ0))  (w : Wd D ay kC NC ad (aN NC ad) s σ H locs) (hl : lv_has ls 4 [(0, .ref (ad a0)), (1, .int l1), (2, .int l2)]) : W p l e (rmK 1 22) s m args below meth c H locs 0 0 (MQ below (cI D ay kC NC ad r0 σ0) args s 0 0 (aN NC ad)) (F0 m 0 ls []) := by
  have k_a0 := okr_in ok_a0
  unfold F_X4_takeNumber at hf
  refine lv_aload_n G.hx G.hb (dcs_get dec_X4_takeNumber_0 0 rfl) rfl (lv_at hl 0 rfl) ?_
  refine lv_iconst (v := (3 : Int32)) G.hx G.hb (dcs_get dec_X4_takeNumber_0 1 rfl) (by decide) ?_
  obtain ⟨v4, σ5, h3, hf⟩ := cC_some hf
  refine a_l (k_V (As := [.int (3 : Int32)]) (rest := []) cls4 lb_X4_take lv_X4_take q_613 (C_X4_take G.2.2.1 a0 (3 : Int32) σ h3 ok_a0) ⟨(Nat.le_of_ble_eq_true rfl), (Nat.le_of_ble_eq_true rfl)⟩ G w k_a0.1 k_a0.2 rfl rfl hl.1 (Nat.le_of_ble_eq_true rfl) (dcs_get dec_X4_takeNumber_0 2 rfl) ⟨Nat.le_refl _, Nat.le_refl _⟩) G w (fun H locs w => ?_)
  refine lv_l2i G.hx G.hb (dcs_get dec_X4_takeNumber_0 3 rfl) rfl ?_
  obtain ⟨v6, e_v6, hf⟩ := cL_some hf
  refine r_topi e_v6 ?_
  refine lv_istore_n (lv' := [(3, .int v6), (0, .ref (ad a0)), (1, .int l1), (2, .int l2)]) G.hx G.hb (dcs_get dec_X4_takeNumber_0 4 rfl) rfl hl (by decide) rfl (fun ls hl => ?_)
  refine lv_aload_n G.hx G.hb (dcs_get dec_X4_takeNumber_0 5 rfl) rfl (lv_at hl 1 rfl) ?_
  refine r_geti (k := 5) cls4 fi_4_5.1 fi_4_5.2 q_202 G w k_a0.1 k_a0.2 (dcs_get dec_X4_takeNumber_0 6 rfl) ?_
  refine lv_if_ne (tgt := 35) G.hx G.hb (dcs_get dec_X4_takeNumber_0 7 rfl) (by decide) (fun hc => ?_) (fun hc => ?_)
  · rw [if_neg hc] at hf
    exact B_X4_takeNumber_35 v6 σ5 G hm  hf  w (lv_sub hl [0] rfl)
  · rw [if_pos hc] at hf
    refine lv_iload_n G.hx G.hb (dcs_get dec_X4_takeNumber_0 8 rfl) rfl (lv_at hl 0 rfl) ?_
    refine lv_iload_n G.hx G.hb (dcs_get dec_X4_takeNumber_0 9 rfl) rfl (lv_at hl 2 rfl) ?_
    refine lv_icmp_lt (tgt := 24) G.hx G.hb (dcs_get dec_X4_takeNumber_0 10 rfl) (by decide) (fun hc => ?_) (fun hc => ?_)
    · rw [if_pos hc] at hf
      exact B_X4_takeNumber_24 a0 v6 σ5 G hm ok_a0 hf  w (lv_sub hl [1, 0] rfl)
    · rw [if_neg hc] at hf
      refine lv_iload_n G.hx G.hb (dcs_get dec_X4_takeNumber_0 11 rfl) rfl (lv_at hl 0 rfl) ?_
      refine lv_iload_n G.hx G.hb (dcs_get dec_X4_takeNumber_0 12 rfl) rfl (lv_at hl 3 rfl) ?_
      refine lv_icmp_le (tgt := 35) G.hx G.hb (dcs_get dec_X4_takeNumber_0 13 rfl) (by decide) (fun hc => ?_) (fun hc => ?_)
      · rw [if_pos hc] at hf
        exact B_X4_takeNumber_35 v6 σ5 G hm  hf  w (lv_sub hl [0] rfl)
      · rw [if_neg hc] at hf
        exact B_X4_takeNumber_24 a0 v6 σ5 G hm ok_a0 hf  w (lv_sub hl [1, 0] rfl)
end
set_option maxRecDepth 100000 in
set_option maxHeartbeats 4000000 in
theorem C_X4_takeNumber {l : Launch} {D : va_G} {ay : Nat → ClassId} {ad : Nat → Nat} (hi : hInj NC ad) (a0 : Nat) (l1 : Int32) (l2 : Int32) (σ : hSt) {r0 : Int32} {σ0 : hSt} (hf : F_X4_takeNumber a0 l1 l2 σ = some (r0, σ0)) (ok_a0 : okr kC NC 4 a0 = true) : hM l D ay kC NC ad yX4_takeNumber cX4_takeNumber 4 ((some .int)) (rmK 1 22) [.ref (ad a0), .int l1, .int l2] σ (cI D ay kC NC ad r0 σ0) := by
  refine hM_in (by decide) hi (Nat.le_of_ble_eq_true rfl) ?_
  intro p e s m below meth c G hm w ls hl
  exact B_X4_takeNumber_0 a0 l1 l2 σ G hm ok_a0 hf w (lv_sub hl [0, 1, 2] rfl)

/-! HillDrums.Reader.parseHill()V -/
def DL_X4_parseHill_0 : List (Nat × Instr × Nat) := [(0, .aload_n 0, 1), (1, .getfield 41, 3), (4, .getfield 79, 3), (7, .istore_n 1, 1), (8, .iload_n 1, 1), (9, .bipush 6, 2), (11, .if_icmp .lt 9, 3), (14, .aload_n 0, 1), (15, .iconst 2, 1), (16, .invokevirtual 121, 3), (19, .return_, 1), (20, .aload_n 0, 1), (21, .sipush 128, 3), (24, .invokevirtual 71, 3), (27, .pop2, 1), (28, .aload_n 0, 1), (29, .getfield 18, 3), (32, .iload_n 1, 1), (33, .aload_n 0, 1), (34, .invokevirtual 125, 3), (37, .lastore, 1), (38, .aload_n 0, 1), (39, .getfield 41, 3), (42, .getfield 129, 3), (45, .iload_n 1, 1), (46, .aload_n 0, 1), (47, .iconst 0, 1), (48, .bipush 99, 2), (50, .invokevirtual 132, 3), (53, .iastore, 1), (54, .aload_n 0, 1), (55, .getfield 41, 3), (58, .getfield 135, 3), (61, .iload_n 1, 1), (62, .aload_n 0, 1), (63, .iconst 0, 1), (64, .bipush 99, 2), (66, .invokevirtual 132, 3), (69, .iastore, 1), (70, .aload_n 0, 1)]
set_option maxRecDepth 100000 in
theorem dec_X4_parseHill_0 : dcs cX4_parseHill DL_X4_parseHill_0 = true := by decide +kernel
def DL_X4_parseHill_1 : List (Nat × Instr × Nat) := [(71, .getfield 41, 3), (74, .iload_n 1, 1), (75, .iconst 1, 1), (76, .iadd, 1), (77, .putfield 79, 3), (80, .return_, 1)]
set_option maxRecDepth 100000 in
theorem dec_X4_parseHill_1 : dcs cX4_parseHill DL_X4_parseHill_1 = true := by decide +kernel
theorem lb_X4_parseHill : lkB yX4_parseHill cX4_parseHill 2 (none) 0 := ⟨q_608, q_6, ⟨by decide, by decide⟩, by decide +kernel⟩
theorem lv_X4_parseHill : lkV yX4_parseHill := ⟨q_607, qs_14⟩
def F_X4_parseHill (a0 : Nat) (σ : hSt) : Option (hSt) :=
cR (σ.2.2 a0 3) (okr kC NC 7) fun z1 =>
cL (σ.1 z1 0) fun v2 =>
if v2 < (6 : Int32) then (
cC (F_X4_take a0 (128 : Int32) σ) fun v4 σ5 =>
cR (σ5.2.2 a0 1) (okr kC NC 103) fun z6 =>
cC (F_X4_takeNewName a0 σ5) fun v8 σ9 =>
cG (inb v2 (kC z6).2) <|
cL (uJ σ9 z6 v2.toNatClampNeg v8) fun σ11 =>
cR (σ11.2.2 a0 3) (okr kC NC 7) fun z12 =>
cR (σ11.2.2 z12 1) (okr kC NC 101) fun z13 =>
cC (F_X4_takeNumber a0 (0 : Int32) (99 : Int32) σ11) fun v15 σ16 =>
cG (inb v2 (kC z13).2) <|
cL (uI σ16 z13 v2.toNatClampNeg v15) fun σ18 =>
cR (σ18.2.2 a0 3) (okr kC NC 7) fun z19 =>
cR (σ18.2.2 z19 2) (okr kC NC 101) fun z20 =>
cC (F_X4_takeNumber a0 (0 : Int32) (99 : Int32) σ18) fun v22 σ23 =>
cG (inb v2 (kC z20).2) <|
cL (uI σ23 z20 v2.toNatClampNeg v22) fun σ25 =>
cR (σ25.2.2 a0 3) (okr kC NC 7) fun z26 =>
cL (uI σ25 z26 0 (v2 + (1 : Int32))) fun σ27 =>
some (σ27)) else (
(F_X4_fail a0 (2 : Int32) σ).bind fun σ29 =>
some (σ29))
section
variable {p : Program} {l : Launch} {e : Env} {s : State} {m : MethodId} {args : Array Value} {below : List Frame} {meth : Method} {c : Code} {D : va_G} {ay : Nat → ClassId} {ad : Nat → Nat}
set_option maxRecDepth 100000 in
set_option maxHeartbeats 4000000 in
theorem B_X4_parseHill_0 {H : Heap} {locs : List Loc} {ls : Array Slot} {σ0 : hSt} (a0 : Nat) (σ : hSt) (G : Gx p m c cX4_parseHill 2 s args RX4 D ay NC ad (aN NC ad)) (hm : meth.sig.returnType = none ∧ meth.locks = false) (ok_a0 : okr kC NC 4 a0 = true) (hf : F_X4_parseHill a0 σ = some σ0)  (w : Wd D ay kC NC ad (aN NC ad) s σ H locs) (hl : lv_has ls 2 [(0, .ref (ad a0))]) : W p l e (rmK 2 47) s m args below meth c H locs 0 0 (MQ below (cV D ay kC NC ad σ0) args s 0 0 (aN NC ad)) (F0 m 0 ls []) := by
  have k_a0 := okr_in ok_a0
  unfold F_X4_parseHill at hf
  refine lv_aload_n G.hx G.hb (dcs_get dec_X4_parseHill_0 0 rfl) rfl (lv_at hl 0 rfl) ?_
  obtain ⟨z1, e_z1, ok_z1, hf⟩ := cR_some hf
  have k_z1 := okr_in ok_z1
  refine r_getr (k := 3) cls4 fi_4_3.1 fi_4_3.2 q_200 G w k_a0.1 k_a0.2 e_z1 (dcs_get dec_X4_parseHill_0 1 rfl) ?_
  refine r_getiN (k := 0) cls7 fi_7_0.1 fi_7_0.2 nf_95 G w k_z1.1 k_z1.2 (dcs_get dec_X4_parseHill_0 2 rfl) ?_
  obtain ⟨v2, e_v2, hf⟩ := cL_some hf
  refine r_topi e_v2 ?_
  refine lv_istore_n (lv' := [(1, .int v2), (0, .ref (ad a0))]) G.hx G.hb (dcs_get dec_X4_parseHill_0 3 rfl) rfl hl (by decide) rfl (fun ls hl => ?_)
  refine lv_iload_n G.hx G.hb (dcs_get dec_X4_parseHill_0 4 rfl) rfl (lv_at hl 0 rfl) ?_
  refine lv_bipush (v := (6 : Int32)) G.hx G.hb (dcs_get dec_X4_parseHill_0 5 rfl) (by decide) ?_
  refine lv_icmp_lt (tgt := 20) G.hx G.hb (dcs_get dec_X4_parseHill_0 6 rfl) (by decide) (fun hc => ?_) (fun hc => ?_)
  · rw [if_pos hc] at hf
    refine lv_aload_n G.hx G.hb (dcs_get dec_X4_parseHill_0 11 rfl) rfl (lv_at hl 1 rfl) ?_
    refine lv_sipush (v := (128 : Int32)) G.hx G.hb (dcs_get dec_X4_parseHill_0 12 rfl) (by decide) ?_
    obtain ⟨v4, σ5, h3, hf⟩ := cC_some hf
    refine a_l (k_V (As := [.int (128 : Int32)]) (rest := []) cls4 lb_X4_take lv_X4_take q_613 (C_X4_take G.2.2.1 a0 (128 : Int32) σ h3 ok_a0) ⟨(Nat.le_of_ble_eq_true rfl), (Nat.le_of_ble_eq_true rfl)⟩ G w k_a0.1 k_a0.2 rfl rfl hl.1 (Nat.le_of_ble_eq_true rfl) (dcs_get dec_X4_parseHill_0 13 rfl) ⟨Nat.le_refl _, Nat.le_refl _⟩) G w (fun H locs w => ?_)
    refine lv_pop2_2 G.hx G.hb (dcs_get dec_X4_parseHill_0 14 rfl) rfl ?_
    refine lv_aload_n G.hx G.hb (dcs_get dec_X4_parseHill_0 15 rfl) rfl (lv_at hl 1 rfl) ?_
    obtain ⟨z6, e_z6, ok_z6, hf⟩ := cR_some hf
    have k_z6 := okr_in ok_z6
    refine r_getr (k := 1) cls4 fi_4_1.1 fi_4_1.2 q_198 G w k_a0.1 k_a0.2 e_z6 (dcs_get dec_X4_parseHill_0 16 rfl) ?_
    refine lv_iload_n G.hx G.hb (dcs_get dec_X4_parseHill_0 17 rfl) rfl (lv_at hl 0 rfl) ?_
    refine lv_aload_n G.hx G.hb (dcs_get dec_X4_parseHill_0 18 rfl) rfl (lv_at hl 1 rfl) ?_
    obtain ⟨v8, σ9, h7, hf⟩ := cC_some hf
    refine a_l (k_V (As := []) (rest := [.int v2, .ref (ad z6)]) cls4 lb_X4_takeNewName lv_X4_takeNewName q_617 (C_X4_takeNewName G.2.2.1 a0 σ5 h7 ok_a0) ⟨(Nat.le_of_ble_eq_true rfl), (Nat.le_of_ble_eq_true rfl)⟩ G w k_a0.1 k_a0.2 rfl rfl hl.1 (Nat.le_of_ble_eq_true rfl) (dcs_get dec_X4_parseHill_0 19 rfl) ⟨Nat.le_refl _, Nat.le_refl _⟩) G w (fun H locs w => ?_)
    obtain ⟨h10, hf⟩ := cG_some hf
    obtain ⟨σ11, e_σ11, hf⟩ := cL_some hf
    refine r_last G w k_z6.1 k_z6.2 h10 (dcs_get dec_X4_parseHill_0 20 rfl) (fun H locs w => ?_)
    have w := Wd.nm e_σ11 w
    refine lv_aload_n G.hx G.hb (dcs_get dec_X4_parseHill_0 21 rfl) rfl (lv_at hl 1 rfl) ?_
    obtain ⟨z12, e_z12, ok_z12, hf⟩ := cR_some hf
    have k_z12 := okr_in ok_z12
    refine r_getr (k := 3) cls4 fi_4_3.1 fi_4_3.2 q_200 G w k_a0.1 k_a0.2 e_z12 (dcs_get dec_X4_parseHill_0 22 rfl) ?_
    obtain ⟨z13, e_z13, ok_z13, hf⟩ := cR_some hf
    have k_z13 := okr_in ok_z13
    refine r_getrN (k := 1) cls7 fi_7_1.1 fi_7_1.2 nf_98 G w k_z12.1 k_z12.2 e_z13 (dcs_get dec_X4_parseHill_0 23 rfl) ?_
    refine lv_iload_n G.hx G.hb (dcs_get dec_X4_parseHill_0 24 rfl) rfl (lv_at hl 0 rfl) ?_
    refine lv_aload_n G.hx G.hb (dcs_get dec_X4_parseHill_0 25 rfl) rfl (lv_at hl 1 rfl) ?_
    refine lv_iconst (v := (0 : Int32)) G.hx G.hb (dcs_get dec_X4_parseHill_0 26 rfl) (by decide) ?_
    refine lv_bipush (v := (99 : Int32)) G.hx G.hb (dcs_get dec_X4_parseHill_0 27 rfl) (by decide) ?_
    obtain ⟨v15, σ16, h14, hf⟩ := cC_some hf
    refine a_i (k_V (As := [.int (0 : Int32), .int (99 : Int32)]) (rest := [.int v2, .ref (ad z13)]) cls4 lb_X4_takeNumber lv_X4_takeNumber q_628 (C_X4_takeNumber G.2.2.1 a0 (0 : Int32) (99 : Int32) σ11 h14 ok_a0) ⟨(Nat.le_of_ble_eq_true rfl), (Nat.le_of_ble_eq_true rfl)⟩ G w k_a0.1 k_a0.2 rfl rfl hl.1 (Nat.le_of_ble_eq_true rfl) (dcs_get dec_X4_parseHill_0 28 rfl) ⟨Nat.le_refl _, Nat.le_refl _⟩) G w (fun H locs w => ?_)
    obtain ⟨h17, hf⟩ := cG_some hf
    obtain ⟨σ18, e_σ18, hf⟩ := cL_some hf
    refine r_iast G w k_z13.1 k_z13.2 h17 (dcs_get dec_X4_parseHill_0 29 rfl) (fun H locs w => ?_)
    have w := Wd.nm e_σ18 w
    refine lv_aload_n G.hx G.hb (dcs_get dec_X4_parseHill_0 30 rfl) rfl (lv_at hl 1 rfl) ?_
    obtain ⟨z19, e_z19, ok_z19, hf⟩ := cR_some hf
    have k_z19 := okr_in ok_z19
    refine r_getr (k := 3) cls4 fi_4_3.1 fi_4_3.2 q_200 G w k_a0.1 k_a0.2 e_z19 (dcs_get dec_X4_parseHill_0 31 rfl) ?_
    obtain ⟨z20, e_z20, ok_z20, hf⟩ := cR_some hf
    have k_z20 := okr_in ok_z20
    refine r_getrN (k := 2) cls7 fi_7_2.1 fi_7_2.2 nf_100 G w k_z19.1 k_z19.2 e_z20 (dcs_get dec_X4_parseHill_0 32 rfl) ?_
    refine lv_iload_n G.hx G.hb (dcs_get dec_X4_parseHill_0 33 rfl) rfl (lv_at hl 0 rfl) ?_
    refine lv_aload_n G.hx G.hb (dcs_get dec_X4_parseHill_0 34 rfl) rfl (lv_at hl 1 rfl) ?_
    refine lv_iconst (v := (0 : Int32)) G.hx G.hb (dcs_get dec_X4_parseHill_0 35 rfl) (by decide) ?_
    refine lv_bipush (v := (99 : Int32)) G.hx G.hb (dcs_get dec_X4_parseHill_0 36 rfl) (by decide) ?_
    obtain ⟨v22, σ23, h21, hf⟩ := cC_some hf
    refine a_i (k_V (As := [.int (0 : Int32), .int (99 : Int32)]) (rest := [.int v2, .ref (ad z20)]) cls4 lb_X4_takeNumber lv_X4_takeNumber q_628 (C_X4_takeNumber G.2.2.1 a0 (0 : Int32) (99 : Int32) σ18 h21 ok_a0) ⟨(Nat.le_of_ble_eq_true rfl), (Nat.le_of_ble_eq_true rfl)⟩ G w k_a0.1 k_a0.2 rfl rfl hl.1 (Nat.le_of_ble_eq_true rfl) (dcs_get dec_X4_parseHill_0 37 rfl) ⟨Nat.le_refl _, Nat.le_refl _⟩) G w (fun H locs w => ?_)
    obtain ⟨h24, hf⟩ := cG_some hf
    obtain ⟨σ25, e_σ25, hf⟩ := cL_some hf
    refine r_iast G w k_z20.1 k_z20.2 h24 (dcs_get dec_X4_parseHill_0 38 rfl) (fun H locs w => ?_)
    have w := Wd.nm e_σ25 w
    refine lv_aload_n G.hx G.hb (dcs_get dec_X4_parseHill_0 39 rfl) rfl (lv_at hl 1 rfl) ?_
    obtain ⟨z26, e_z26, ok_z26, hf⟩ := cR_some hf
    have k_z26 := okr_in ok_z26
    refine r_getr (k := 3) cls4 fi_4_3.1 fi_4_3.2 q_200 G w k_a0.1 k_a0.2 e_z26 (dcs_get dec_X4_parseHill_1 0 rfl) ?_
    refine lv_iload_n G.hx G.hb (dcs_get dec_X4_parseHill_1 1 rfl) rfl (lv_at hl 0 rfl) ?_
    refine lv_iconst (v := (1 : Int32)) G.hx G.hb (dcs_get dec_X4_parseHill_1 2 rfl) (by decide) ?_
    refine lv_iadd G.hx G.hb (dcs_get dec_X4_parseHill_1 3 rfl) ?_
    obtain ⟨σ27, e_σ27, hf⟩ := cL_some hf
    refine r_putiN (k := 0) cls7 ct7 fi_7_0.1 fi_7_0.2 fp_7_0.1 fp_7_0.2 nf_95 rfl rfl G w k_z26.1 k_z26.2 (dcs_get dec_X4_parseHill_1 4 rfl) (fun H locs w => ?_)
    have w := Wd.nm e_σ27 w
    have e9 := Option.some.inj hf
    exact r_vret G w hm e9 (dcs_get dec_X4_parseHill_1 5 rfl)
  · rw [if_neg hc] at hf
    refine lv_aload_n G.hx G.hb (dcs_get dec_X4_parseHill_0 7 rfl) rfl (lv_at hl 1 rfl) ?_
    refine lv_iconst (v := (2 : Int32)) G.hx G.hb (dcs_get dec_X4_parseHill_0 8 rfl) (by decide) ?_
    obtain ⟨σ29, h28, hf⟩ := cB_some hf
    refine a_v (k_V (As := [.int (2 : Int32)]) (rest := []) cls4 lb_X4_fail lv_X4_fail q_609 (C_X4_fail G.2.2.1 a0 (2 : Int32) σ h28 ok_a0) ⟨(Nat.le_of_ble_eq_true rfl), (Nat.le_of_ble_eq_true rfl)⟩ G w k_a0.1 k_a0.2 rfl rfl hl.1 (Nat.le_of_ble_eq_true rfl) (dcs_get dec_X4_parseHill_0 9 rfl) ⟨Nat.le_refl _, Nat.le_refl _⟩) G w (fun H locs w => ?_)
    have e9 := Option.some.inj hf
    exact r_vret G w hm e9 (dcs_get dec_X4_parseHill_0 10 rfl)
end
set_option maxRecDepth 100000 in
set_option maxHeartbeats 4000000 in
theorem C_X4_parseHill {l : Launch} {D : va_G} {ay : Nat → ClassId} {ad : Nat → Nat} (hi : hInj NC ad) (a0 : Nat) (σ : hSt) {σ0 : hSt} (hf : F_X4_parseHill a0 σ = some σ0) (ok_a0 : okr kC NC 4 a0 = true) : hM l D ay kC NC ad yX4_parseHill cX4_parseHill 2 (none) (rmK 2 47) [.ref (ad a0)] σ (cV D ay kC NC ad σ0) := by
  refine hM_in (by decide) hi (Nat.le_of_ble_eq_true rfl) ?_
  intro p e s m below meth c G hm w ls hl
  exact B_X4_parseHill_0 a0 σ G hm ok_a0 hf w (lv_sub hl [0] rfl)

/-! HillDrums.Reader.takeOneOf([JI)I -/
def DL_X4_takeOneOf_0 : List (Nat × Instr × Nat) := [(0, .aload_n 0, 1), (1, .iconst 2, 1), (2, .invokevirtual 71, 3), (5, .aload_n 1, 1), (6, .iload_n 2, 1), (7, .invokestatic 82, 3), (10, .istore_n 3, 1), (11, .aload_n 0, 1), (12, .getfield 29, 3), (15, .ifCond .ne 19, 3), (18, .iload_n 3, 1), (19, .iconst (-1), 1), (20, .if_icmp .ne 14, 3), (23, .aload_n 0, 1), (24, .iconst 4, 1), (25, .aload_n 0, 1), (26, .getfield 25, 3), (29, .iconst 1, 1), (30, .isub, 1), (31, .invokevirtual 75, 3), (34, .iload_n 3, 1), (35, .iconst 0, 1), (36, .invokestatic 89, 3), (39, .ireturn, 1)]
set_option maxRecDepth 100000 in
theorem dec_X4_takeOneOf_0 : dcs cX4_takeOneOf DL_X4_takeOneOf_0 = true := by decide +kernel
theorem lb_X4_takeOneOf : lkB yX4_takeOneOf cX4_takeOneOf 4 ((some .int)) 2 := ⟨q_639, q_6, ⟨by decide, by decide⟩, by decide +kernel⟩
theorem lv_X4_takeOneOf : lkV yX4_takeOneOf := ⟨q_638, qs_21⟩
def F_X4_takeOneOf_34 (l3 : Int32) (σ : hSt) : Option (Int32 × hSt) :=
some ((if l3 < (0 : Int32) then (0 : Int32) else l3, σ))
def F_X4_takeOneOf (a0 : Nat) (a1 : Nat) (l2 : Int32) (σ : hSt) : Option (Int32 × hSt) :=
cC (F_X4_take a0 (2 : Int32) σ) fun v2 σ3 =>
(F_X4_indexOf v2 a1 l2 σ3).bind fun v5 =>
if (σ3.1 a0 5) = 0 then (
if v5 = (-1 : Int32) then (
(F_X4_mean a0 (4 : Int32) ((σ3.1 a0 4) - (1 : Int32)) σ3).bind fun σ7 =>
F_X4_takeOneOf_34 v5 σ7) else (
F_X4_takeOneOf_34 v5 σ3)) else (
F_X4_takeOneOf_34 v5 σ3)
section
variable {p : Program} {l : Launch} {e : Env} {s : State} {m : MethodId} {args : Array Value} {below : List Frame} {meth : Method} {c : Code} {D : va_G} {ay : Nat → ClassId} {ad : Nat → Nat}
set_option maxRecDepth 100000 in
set_option maxHeartbeats 4000000 in
theorem B_X4_takeOneOf_34 {H : Heap} {locs : List Loc} {ls : Array Slot} {r0 : Int32} {σ0 : hSt} (l3 : Int32) (σ : hSt) (G : Gx p m c cX4_takeOneOf 4 s args RX4 D ay NC ad (aN NC ad)) (hm : meth.sig.returnType = (some .int) ∧ meth.locks = false)  (hf : F_X4_takeOneOf_34 l3 σ = some (r0, σ0))  (w : Wd D ay kC NC ad (aN NC ad) s σ H locs) (hl : lv_has ls 4 [(3, .int l3)]) : W p l e (rmK 1 24) s m args below meth c H locs 0 0 (MQ below (cI D ay kC NC ad r0 σ0) args s 0 0 (aN NC ad)) (F0 m 34 ls []) := by
  unfold F_X4_takeOneOf_34 at hf
  refine lv_iload_n G.hx G.hb (dcs_get dec_X4_takeOneOf_0 20 rfl) rfl (lv_at hl 0 rfl) ?_
  refine lv_iconst (v := (0 : Int32)) G.hx G.hb (dcs_get dec_X4_takeOneOf_0 21 rfl) (by decide) ?_
  refine r_max q_640 q_554 q_19 q_555 ⟨(Nat.le_of_ble_eq_true rfl), (Nat.le_of_ble_eq_true rfl)⟩ ⟨Nat.le_refl _, Nat.le_refl _⟩ G hl.1 (dcs_get dec_X4_takeOneOf_0 22 rfl) ?_
  have e9 := Option.some.inj hf
  exact r_iret G w hm (congrArg Prod.fst e9) (congrArg Prod.snd e9) (dcs_get dec_X4_takeOneOf_0 23 rfl)
set_option maxRecDepth 100000 in
set_option maxHeartbeats 4000000 in
theorem B_X4_takeOneOf_0 {H : Heap} {locs : List Loc} {ls : Array Slot} {r0 : Int32} {σ0 : hSt} (a0 : Nat) (a1 : Nat) (l2 : Int32) (σ : hSt) (G : Gx p m c cX4_takeOneOf 4 s args RX4 D ay NC ad (aN NC ad)) (hm : meth.sig.returnType = (some .int) ∧ meth.locks = false) (ok_a0 : okr kC NC 4 a0 = true) (ok_a1 : okr kC NC 103 a1 = true) (hf : F_X4_takeOneOf a0 a1 l2 σ = some (r0, σ0))  (w : Wd D ay kC NC ad (aN NC ad) s σ H locs) (hl : lv_has ls 4 [(0, .ref (ad a0)), (1, .ref (ad a1)), (2, .int l2)]) : W p l e (rmK 1 24) s m args below meth c H locs 0 0 (MQ below (cI D ay kC NC ad r0 σ0) args s 0 0 (aN NC ad)) (F0 m 0 ls []) := by
  have k_a0 := okr_in ok_a0
  have k_a1 := okr_in ok_a1
  unfold F_X4_takeOneOf at hf
  refine lv_aload_n G.hx G.hb (dcs_get dec_X4_takeOneOf_0 0 rfl) rfl (lv_at hl 0 rfl) ?_
  refine lv_iconst (v := (2 : Int32)) G.hx G.hb (dcs_get dec_X4_takeOneOf_0 1 rfl) (by decide) ?_
  obtain ⟨v2, σ3, h1, hf⟩ := cC_some hf
  refine a_l (k_V (As := [.int (2 : Int32)]) (rest := []) cls4 lb_X4_take lv_X4_take q_613 (C_X4_take G.2.2.1 a0 (2 : Int32) σ h1 ok_a0) ⟨(Nat.le_of_ble_eq_true rfl), (Nat.le_of_ble_eq_true rfl)⟩ G w k_a0.1 k_a0.2 rfl rfl hl.1 (Nat.le_of_ble_eq_true rfl) (dcs_get dec_X4_takeOneOf_0 2 rfl) ⟨Nat.le_refl _, Nat.le_refl _⟩) G w (fun H locs w => ?_)
  refine lv_aload_n G.hx G.hb (dcs_get dec_X4_takeOneOf_0 3 rfl) rfl (lv_at hl 1 rfl) ?_
  refine lv_iload_n G.hx G.hb (dcs_get dec_X4_takeOneOf_0 4 rfl) rfl (lv_at hl 2 rfl) ?_
  obtain ⟨v5, h4, hf⟩ := cB_some hf
  refine a_i (k_S (As := [.long v2, .ref (ad a1), .int l2]) (rest := []) lb_X4_indexOf q_622 q_621 (C_X4_indexOf G.2.2.1 v2 a1 l2 σ3 h4 ok_a1) ⟨(Nat.le_of_ble_eq_true rfl), (Nat.le_of_ble_eq_true rfl)⟩ G w rfl rfl hl.1 (Nat.le_of_ble_eq_true rfl) (dcs_get dec_X4_takeOneOf_0 5 rfl) ⟨Nat.le_refl _, Nat.le_refl _⟩) G w (fun H locs w => ?_)
  refine lv_istore_n (lv' := [(3, .int v5), (0, .ref (ad a0)), (1, .ref (ad a1)), (2, .int l2)]) G.hx G.hb (dcs_get dec_X4_takeOneOf_0 6 rfl) rfl hl (by decide) rfl (fun ls hl => ?_)
  refine lv_aload_n G.hx G.hb (dcs_get dec_X4_takeOneOf_0 7 rfl) rfl (lv_at hl 1 rfl) ?_
  refine r_geti (k := 5) cls4 fi_4_5.1 fi_4_5.2 q_202 G w k_a0.1 k_a0.2 (dcs_get dec_X4_takeOneOf_0 8 rfl) ?_
  refine lv_if_ne (tgt := 34) G.hx G.hb (dcs_get dec_X4_takeOneOf_0 9 rfl) (by decide) (fun hc => ?_) (fun hc => ?_)
  · rw [if_neg hc] at hf
    exact B_X4_takeOneOf_34 v5 σ3 G hm  hf  w (lv_sub hl [0] rfl)
  · rw [if_pos hc] at hf
    refine lv_iload_n G.hx G.hb (dcs_get dec_X4_takeOneOf_0 10 rfl) rfl (lv_at hl 0 rfl) ?_
    refine lv_iconst (v := (-1 : Int32)) G.hx G.hb (dcs_get dec_X4_takeOneOf_0 11 rfl) (by decide) ?_
    refine lv_icmp_ne (tgt := 34) G.hx G.hb (dcs_get dec_X4_takeOneOf_0 12 rfl) (by decide) (fun hc => ?_) (fun hc => ?_)
    · rw [if_neg hc] at hf
      exact B_X4_takeOneOf_34 v5 σ3 G hm  hf  w (lv_sub hl [0] rfl)
    · rw [if_pos hc] at hf
      refine lv_aload_n G.hx G.hb (dcs_get dec_X4_takeOneOf_0 13 rfl) rfl (lv_at hl 1 rfl) ?_
      refine lv_iconst (v := (4 : Int32)) G.hx G.hb (dcs_get dec_X4_takeOneOf_0 14 rfl) (by decide) ?_
      refine lv_aload_n G.hx G.hb (dcs_get dec_X4_takeOneOf_0 15 rfl) rfl (lv_at hl 1 rfl) ?_
      refine r_geti (k := 4) cls4 fi_4_4.1 fi_4_4.2 q_201 G w k_a0.1 k_a0.2 (dcs_get dec_X4_takeOneOf_0 16 rfl) ?_
      refine lv_iconst (v := (1 : Int32)) G.hx G.hb (dcs_get dec_X4_takeOneOf_0 17 rfl) (by decide) ?_
      refine lv_isub G.hx G.hb (dcs_get dec_X4_takeOneOf_0 18 rfl) ?_
      obtain ⟨σ7, h6, hf⟩ := cB_some hf
      refine a_v (k_V (As := [.int (4 : Int32), .int ((σ3.1 a0 4) - (1 : Int32))]) (rest := []) cls4 lb_X4_mean lv_X4_mean q_624 (C_X4_mean G.2.2.1 a0 (4 : Int32) ((σ3.1 a0 4) - (1 : Int32)) σ3 h6 ok_a0) ⟨(Nat.le_of_ble_eq_true rfl), (Nat.le_of_ble_eq_true rfl)⟩ G w k_a0.1 k_a0.2 rfl rfl hl.1 (Nat.le_of_ble_eq_true rfl) (dcs_get dec_X4_takeOneOf_0 19 rfl) ⟨Nat.le_refl _, Nat.le_refl _⟩) G w (fun H locs w => ?_)
      exact B_X4_takeOneOf_34 v5 σ7 G hm  hf  w (lv_sub hl [0] rfl)
end
set_option maxRecDepth 100000 in
set_option maxHeartbeats 4000000 in
theorem C_X4_takeOneOf {l : Launch} {D : va_G} {ay : Nat → ClassId} {ad : Nat → Nat} (hi : hInj NC ad) (a0 : Nat) (a1 : Nat) (l2 : Int32) (σ : hSt) {r0 : Int32} {σ0 : hSt} (hf : F_X4_takeOneOf a0 a1 l2 σ = some (r0, σ0)) (ok_a0 : okr kC NC 4 a0 = true) (ok_a1 : okr kC NC 103 a1 = true) : hM l D ay kC NC ad yX4_takeOneOf cX4_takeOneOf 4 ((some .int)) (rmK 1 24) [.ref (ad a0), .ref (ad a1), .int l2] σ (cI D ay kC NC ad r0 σ0) := by
  refine hM_in (by decide) hi (Nat.le_of_ble_eq_true rfl) ?_
  intro p e s m below meth c G hm w ls hl
  exact B_X4_takeOneOf_0 a0 a1 l2 σ G hm ok_a0 ok_a1 hf w (lv_sub hl [0, 1, 2] rfl)

/-! HillDrums.Reader.parseNews()V -/
def DL_X4_parseNews_0 : List (Nat × Instr × Nat) := [(0, .aload_n 0, 1), (1, .getfield 41, 3), (4, .getfield 86, 3), (7, .istore_n 1, 1), (8, .iload_n 1, 1), (9, .iconst 4, 1), (10, .if_icmp .lt 9, 3), (13, .aload_n 0, 1), (14, .iconst 2, 1), (15, .invokevirtual 121, 3), (18, .return_, 1), (19, .aload_n 0, 1), (20, .sipush 129, 3), (23, .invokevirtual 71, 3), (26, .pop2, 1), (27, .aload_n 0, 1), (28, .getfield 22, 3), (31, .iload_n 1, 1), (32, .aload_n 0, 1), (33, .invokevirtual 125, 3), (36, .lastore, 1), (37, .aload_n 0, 1), (38, .sipush 130, 3), (41, .invokevirtual 71, 3), (44, .pop2, 1), (45, .aload_n 0, 1), (46, .getfield 41, 3), (49, .getfield 138, 3), (52, .iload_n 1, 1), (53, .aload_n 0, 1), (54, .aload_n 0, 1), (55, .getfield 18, 3), (58, .aload_n 0, 1), (59, .getfield 41, 3), (62, .getfield 79, 3), (65, .invokevirtual 141, 3), (68, .iastore, 1), (69, .aload_n 0, 1), (70, .getfield 41, 3), (73, .iload_n 1, 1)]
set_option maxRecDepth 100000 in
theorem dec_X4_parseNews_0 : dcs cX4_parseNews DL_X4_parseNews_0 = true := by decide +kernel
def DL_X4_parseNews_1 : List (Nat × Instr × Nat) := [(74, .iconst 1, 1), (75, .iadd, 1), (76, .putfield 86, 3), (79, .return_, 1)]
set_option maxRecDepth 100000 in
theorem dec_X4_parseNews_1 : dcs cX4_parseNews DL_X4_parseNews_1 = true := by decide +kernel
theorem lb_X4_parseNews : lkB yX4_parseNews cX4_parseNews 2 (none) 0 := ⟨q_635, q_6, ⟨by decide, by decide⟩, by decide +kernel⟩
theorem lv_X4_parseNews : lkV yX4_parseNews := ⟨q_634, qs_20⟩
def F_X4_parseNews (a0 : Nat) (σ : hSt) : Option (hSt) :=
cR (σ.2.2 a0 3) (okr kC NC 7) fun z1 =>
cL (σ.1 z1 3) fun v2 =>
if v2 < (4 : Int32) then (
cC (F_X4_take a0 (129 : Int32) σ) fun v4 σ5 =>
cR (σ5.2.2 a0 2) (okr kC NC 103) fun z6 =>
cC (F_X4_takeNewName a0 σ5) fun v8 σ9 =>
cG (inb v2 (kC z6).2) <|
cL (uJ σ9 z6 v2.toNatClampNeg v8) fun σ11 =>
cC (F_X4_take a0 (130 : Int32) σ11) fun v13 σ14 =>
cR (σ14.2.2 a0 3) (okr kC NC 7) fun z15 =>
cR (σ14.2.2 z15 4) (okr kC NC 101) fun z16 =>
cR (σ14.2.2 a0 1) (okr kC NC 103) fun z17 =>
cR (σ14.2.2 a0 3) (okr kC NC 7) fun z18 =>
cC (F_X4_takeOneOf a0 z17 (σ14.1 z18 0) σ14) fun v20 σ21 =>
cG (inb v2 (kC z16).2) <|
cL (uI σ21 z16 v2.toNatClampNeg v20) fun σ23 =>
cR (σ23.2.2 a0 3) (okr kC NC 7) fun z24 =>
cL (uI σ23 z24 3 (v2 + (1 : Int32))) fun σ25 =>
some (σ25)) else (
(F_X4_fail a0 (2 : Int32) σ).bind fun σ27 =>
some (σ27))
section
variable {p : Program} {l : Launch} {e : Env} {s : State} {m : MethodId} {args : Array Value} {below : List Frame} {meth : Method} {c : Code} {D : va_G} {ay : Nat → ClassId} {ad : Nat → Nat}
set_option maxRecDepth 100000 in
set_option maxHeartbeats 4000000 in
theorem B_X4_parseNews_0 {H : Heap} {locs : List Loc} {ls : Array Slot} {σ0 : hSt} (a0 : Nat) (σ : hSt) (G : Gx p m c cX4_parseNews 2 s args RX4 D ay NC ad (aN NC ad)) (hm : meth.sig.returnType = none ∧ meth.locks = false) (ok_a0 : okr kC NC 4 a0 = true) (hf : F_X4_parseNews a0 σ = some σ0)  (w : Wd D ay kC NC ad (aN NC ad) s σ H locs) (hl : lv_has ls 2 [(0, .ref (ad a0))]) : W p l e (rmK 2 47) s m args below meth c H locs 0 0 (MQ below (cV D ay kC NC ad σ0) args s 0 0 (aN NC ad)) (F0 m 0 ls []) := by
  have k_a0 := okr_in ok_a0
  unfold F_X4_parseNews at hf
  refine lv_aload_n G.hx G.hb (dcs_get dec_X4_parseNews_0 0 rfl) rfl (lv_at hl 0 rfl) ?_
  obtain ⟨z1, e_z1, ok_z1, hf⟩ := cR_some hf
  have k_z1 := okr_in ok_z1
  refine r_getr (k := 3) cls4 fi_4_3.1 fi_4_3.2 q_200 G w k_a0.1 k_a0.2 e_z1 (dcs_get dec_X4_parseNews_0 1 rfl) ?_
  refine r_getiN (k := 3) cls7 fi_7_3.1 fi_7_3.2 nf_105 G w k_z1.1 k_z1.2 (dcs_get dec_X4_parseNews_0 2 rfl) ?_
  obtain ⟨v2, e_v2, hf⟩ := cL_some hf
  refine r_topi e_v2 ?_
  refine lv_istore_n (lv' := [(1, .int v2), (0, .ref (ad a0))]) G.hx G.hb (dcs_get dec_X4_parseNews_0 3 rfl) rfl hl (by decide) rfl (fun ls hl => ?_)
  refine lv_iload_n G.hx G.hb (dcs_get dec_X4_parseNews_0 4 rfl) rfl (lv_at hl 0 rfl) ?_
  refine lv_iconst (v := (4 : Int32)) G.hx G.hb (dcs_get dec_X4_parseNews_0 5 rfl) (by decide) ?_
  refine lv_icmp_lt (tgt := 19) G.hx G.hb (dcs_get dec_X4_parseNews_0 6 rfl) (by decide) (fun hc => ?_) (fun hc => ?_)
  · rw [if_pos hc] at hf
    refine lv_aload_n G.hx G.hb (dcs_get dec_X4_parseNews_0 11 rfl) rfl (lv_at hl 1 rfl) ?_
    refine lv_sipush (v := (129 : Int32)) G.hx G.hb (dcs_get dec_X4_parseNews_0 12 rfl) (by decide) ?_
    obtain ⟨v4, σ5, h3, hf⟩ := cC_some hf
    refine a_l (k_V (As := [.int (129 : Int32)]) (rest := []) cls4 lb_X4_take lv_X4_take q_613 (C_X4_take G.2.2.1 a0 (129 : Int32) σ h3 ok_a0) ⟨(Nat.le_of_ble_eq_true rfl), (Nat.le_of_ble_eq_true rfl)⟩ G w k_a0.1 k_a0.2 rfl rfl hl.1 (Nat.le_of_ble_eq_true rfl) (dcs_get dec_X4_parseNews_0 13 rfl) ⟨Nat.le_refl _, Nat.le_refl _⟩) G w (fun H locs w => ?_)
    refine lv_pop2_2 G.hx G.hb (dcs_get dec_X4_parseNews_0 14 rfl) rfl ?_
    refine lv_aload_n G.hx G.hb (dcs_get dec_X4_parseNews_0 15 rfl) rfl (lv_at hl 1 rfl) ?_
    obtain ⟨z6, e_z6, ok_z6, hf⟩ := cR_some hf
    have k_z6 := okr_in ok_z6
    refine r_getr (k := 2) cls4 fi_4_2.1 fi_4_2.2 q_199 G w k_a0.1 k_a0.2 e_z6 (dcs_get dec_X4_parseNews_0 16 rfl) ?_
    refine lv_iload_n G.hx G.hb (dcs_get dec_X4_parseNews_0 17 rfl) rfl (lv_at hl 0 rfl) ?_
    refine lv_aload_n G.hx G.hb (dcs_get dec_X4_parseNews_0 18 rfl) rfl (lv_at hl 1 rfl) ?_
    obtain ⟨v8, σ9, h7, hf⟩ := cC_some hf
    refine a_l (k_V (As := []) (rest := [.int v2, .ref (ad z6)]) cls4 lb_X4_takeNewName lv_X4_takeNewName q_617 (C_X4_takeNewName G.2.2.1 a0 σ5 h7 ok_a0) ⟨(Nat.le_of_ble_eq_true rfl), (Nat.le_of_ble_eq_true rfl)⟩ G w k_a0.1 k_a0.2 rfl rfl hl.1 (Nat.le_of_ble_eq_true rfl) (dcs_get dec_X4_parseNews_0 19 rfl) ⟨Nat.le_refl _, Nat.le_refl _⟩) G w (fun H locs w => ?_)
    obtain ⟨h10, hf⟩ := cG_some hf
    obtain ⟨σ11, e_σ11, hf⟩ := cL_some hf
    refine r_last G w k_z6.1 k_z6.2 h10 (dcs_get dec_X4_parseNews_0 20 rfl) (fun H locs w => ?_)
    have w := Wd.nm e_σ11 w
    refine lv_aload_n G.hx G.hb (dcs_get dec_X4_parseNews_0 21 rfl) rfl (lv_at hl 1 rfl) ?_
    refine lv_sipush (v := (130 : Int32)) G.hx G.hb (dcs_get dec_X4_parseNews_0 22 rfl) (by decide) ?_
    obtain ⟨v13, σ14, h12, hf⟩ := cC_some hf
    refine a_l (k_V (As := [.int (130 : Int32)]) (rest := []) cls4 lb_X4_take lv_X4_take q_613 (C_X4_take G.2.2.1 a0 (130 : Int32) σ11 h12 ok_a0) ⟨(Nat.le_of_ble_eq_true rfl), (Nat.le_of_ble_eq_true rfl)⟩ G w k_a0.1 k_a0.2 rfl rfl hl.1 (Nat.le_of_ble_eq_true rfl) (dcs_get dec_X4_parseNews_0 23 rfl) ⟨Nat.le_refl _, Nat.le_refl _⟩) G w (fun H locs w => ?_)
    refine lv_pop2_2 G.hx G.hb (dcs_get dec_X4_parseNews_0 24 rfl) rfl ?_
    refine lv_aload_n G.hx G.hb (dcs_get dec_X4_parseNews_0 25 rfl) rfl (lv_at hl 1 rfl) ?_
    obtain ⟨z15, e_z15, ok_z15, hf⟩ := cR_some hf
    have k_z15 := okr_in ok_z15
    refine r_getr (k := 3) cls4 fi_4_3.1 fi_4_3.2 q_200 G w k_a0.1 k_a0.2 e_z15 (dcs_get dec_X4_parseNews_0 26 rfl) ?_
    obtain ⟨z16, e_z16, ok_z16, hf⟩ := cR_some hf
    have k_z16 := okr_in ok_z16
    refine r_getrN (k := 4) cls7 fi_7_4.1 fi_7_4.2 nf_108 G w k_z15.1 k_z15.2 e_z16 (dcs_get dec_X4_parseNews_0 27 rfl) ?_
    refine lv_iload_n G.hx G.hb (dcs_get dec_X4_parseNews_0 28 rfl) rfl (lv_at hl 0 rfl) ?_
    refine lv_aload_n G.hx G.hb (dcs_get dec_X4_parseNews_0 29 rfl) rfl (lv_at hl 1 rfl) ?_
    refine lv_aload_n G.hx G.hb (dcs_get dec_X4_parseNews_0 30 rfl) rfl (lv_at hl 1 rfl) ?_
    obtain ⟨z17, e_z17, ok_z17, hf⟩ := cR_some hf
    have k_z17 := okr_in ok_z17
    refine r_getr (k := 1) cls4 fi_4_1.1 fi_4_1.2 q_198 G w k_a0.1 k_a0.2 e_z17 (dcs_get dec_X4_parseNews_0 31 rfl) ?_
    refine lv_aload_n G.hx G.hb (dcs_get dec_X4_parseNews_0 32 rfl) rfl (lv_at hl 1 rfl) ?_
    obtain ⟨z18, e_z18, ok_z18, hf⟩ := cR_some hf
    have k_z18 := okr_in ok_z18
    refine r_getr (k := 3) cls4 fi_4_3.1 fi_4_3.2 q_200 G w k_a0.1 k_a0.2 e_z18 (dcs_get dec_X4_parseNews_0 33 rfl) ?_
    refine r_getiN (k := 0) cls7 fi_7_0.1 fi_7_0.2 nf_95 G w k_z18.1 k_z18.2 (dcs_get dec_X4_parseNews_0 34 rfl) ?_
    obtain ⟨v20, σ21, h19, hf⟩ := cC_some hf
    refine a_i (k_V (As := [.ref (ad z17), .int (σ14.1 z18 0)]) (rest := [.int v2, .ref (ad z16)]) cls4 lb_X4_takeOneOf lv_X4_takeOneOf q_636 (C_X4_takeOneOf G.2.2.1 a0 z17 (σ14.1 z18 0) σ14 h19 ok_a0 ok_z17) ⟨(Nat.le_of_ble_eq_true rfl), (Nat.le_of_ble_eq_true rfl)⟩ G w k_a0.1 k_a0.2 rfl rfl hl.1 (Nat.le_of_ble_eq_true rfl) (dcs_get dec_X4_parseNews_0 35 rfl) ⟨Nat.le_refl _, Nat.le_refl _⟩) G w (fun H locs w => ?_)
    obtain ⟨h22, hf⟩ := cG_some hf
    obtain ⟨σ23, e_σ23, hf⟩ := cL_some hf
    refine r_iast G w k_z16.1 k_z16.2 h22 (dcs_get dec_X4_parseNews_0 36 rfl) (fun H locs w => ?_)
    have w := Wd.nm e_σ23 w
    refine lv_aload_n G.hx G.hb (dcs_get dec_X4_parseNews_0 37 rfl) rfl (lv_at hl 1 rfl) ?_
    obtain ⟨z24, e_z24, ok_z24, hf⟩ := cR_some hf
    have k_z24 := okr_in ok_z24
    refine r_getr (k := 3) cls4 fi_4_3.1 fi_4_3.2 q_200 G w k_a0.1 k_a0.2 e_z24 (dcs_get dec_X4_parseNews_0 38 rfl) ?_
    refine lv_iload_n G.hx G.hb (dcs_get dec_X4_parseNews_0 39 rfl) rfl (lv_at hl 0 rfl) ?_
    refine lv_iconst (v := (1 : Int32)) G.hx G.hb (dcs_get dec_X4_parseNews_1 0 rfl) (by decide) ?_
    refine lv_iadd G.hx G.hb (dcs_get dec_X4_parseNews_1 1 rfl) ?_
    obtain ⟨σ25, e_σ25, hf⟩ := cL_some hf
    refine r_putiN (k := 3) cls7 ct7 fi_7_3.1 fi_7_3.2 fp_7_3.1 fp_7_3.2 nf_105 rfl rfl G w k_z24.1 k_z24.2 (dcs_get dec_X4_parseNews_1 2 rfl) (fun H locs w => ?_)
    have w := Wd.nm e_σ25 w
    have e9 := Option.some.inj hf
    exact r_vret G w hm e9 (dcs_get dec_X4_parseNews_1 3 rfl)
  · rw [if_neg hc] at hf
    refine lv_aload_n G.hx G.hb (dcs_get dec_X4_parseNews_0 7 rfl) rfl (lv_at hl 1 rfl) ?_
    refine lv_iconst (v := (2 : Int32)) G.hx G.hb (dcs_get dec_X4_parseNews_0 8 rfl) (by decide) ?_
    obtain ⟨σ27, h26, hf⟩ := cB_some hf
    refine a_v (k_V (As := [.int (2 : Int32)]) (rest := []) cls4 lb_X4_fail lv_X4_fail q_609 (C_X4_fail G.2.2.1 a0 (2 : Int32) σ h26 ok_a0) ⟨(Nat.le_of_ble_eq_true rfl), (Nat.le_of_ble_eq_true rfl)⟩ G w k_a0.1 k_a0.2 rfl rfl hl.1 (Nat.le_of_ble_eq_true rfl) (dcs_get dec_X4_parseNews_0 9 rfl) ⟨Nat.le_refl _, Nat.le_refl _⟩) G w (fun H locs w => ?_)
    have e9 := Option.some.inj hf
    exact r_vret G w hm e9 (dcs_get dec_X4_parseNews_0 10 rfl)
end
set_option maxRecDepth 100000 in
set_option maxHeartbeats 4000000 in
theorem C_X4_parseNews {l : Launch} {D : va_G} {ay : Nat → ClassId} {ad : Nat → Nat} (hi : hInj NC ad) (a0 : Nat) (σ : hSt) {σ0 : hSt} (hf : F_X4_parseNews a0 σ = some σ0) (ok_a0 : okr kC NC 4 a0 = true) : hM l D ay kC NC ad yX4_parseNews cX4_parseNews 2 (none) (rmK 2 47) [.ref (ad a0)] σ (cV D ay kC NC ad σ0) := by
  refine hM_in (by decide) hi (Nat.le_of_ble_eq_true rfl) ?_
  intro p e s m below meth c G hm w ls hl
  exact B_X4_parseNews_0 a0 σ G hm ok_a0 hf w (lv_sub hl [0] rfl)

def DL_X4_parseSum_0 : List (Nat × Instr × Nat) := [(0, .aload_n 0, 1), (1, .iload_n 1, 1), (2, .invokevirtual 187, 3), (5, .iconst 0, 1), (6, .istore_n 2, 1), (7, .iload_n 2, 1), (8, .sipush 401, 3), (11, .if_icmp .ge 56, 3), (14, .aload_n 0, 1), (15, .invokevirtual 54, 3), (18, .bipush 43, 2), (20, .if_icmp .eq 12, 3), (23, .aload_n 0, 1), (24, .invokevirtual 54, 3), (27, .bipush 45, 2), (29, .if_icmp .ne 38, 3), (32, .aload_n 0, 1), (33, .invokevirtual 54, 3), (36, .istore_n 3, 1), (37, .aload_n 0, 1), (38, .iload_n 3, 1), (39, .invokevirtual 71, 3), (42, .pop2, 1), (43, .aload_n 0, 1), (44, .iload_n 1, 1), (45, .invokevirtual 187, 3), (48, .aload_n 0, 1), (49, .getfield 41, 3), (52, .getfield 168, 3), (55, .iload_n 3, 1), (56, .ineg, 1), (57, .invokevirtual 180, 3), (60, .pop, 1), (61, .iinc 2 1, 3), (64, .goto (-57), 3), (67, .return_, 1)]
set_option maxRecDepth 100000 in
theorem dec_X4_parseSum_0 : dcs cX4_parseSum DL_X4_parseSum_0 = true := by decide +kernel
theorem lb_X4_parseSum : lkB yX4_parseSum cX4_parseSum 4 (none) 1 := ⟨q_648, q_6, ⟨by decide, by decide⟩, by decide +kernel⟩
theorem lv_X4_parseSum : lkV yX4_parseSum := ⟨q_647, qs_23⟩
/-! HillDrums.Reader.parseUnit(I)V -/
def DL_X4_parseUnit_0 : List (Nat × Instr × Nat) := [(0, .aload_n 0, 1), (1, .invokevirtual 54, 3), (4, .istore_n 2, 1), (5, .iload_n 2, 1), (6, .iconst 3, 1), (7, .if_icmp .ne 23, 3), (10, .aload_n 0, 1), (11, .getfield 41, 3), (14, .getfield 168, 3), (17, .aload_n 0, 1), (18, .iconst 3, 1), (19, .invokevirtual 71, 3), (22, .l2i, 1), (23, .invokevirtual 180, 3), (26, .pop, 1), (27, .goto 88, 3), (30, .iload_n 2, 1), (31, .sipush 141, 3), (34, .if_icmp .lt 32, 3), (37, .iload_n 2, 1), (38, .sipush 146, 3), (41, .if_icmp .gt 25, 3), (44, .aload_n 0, 1), (45, .iload_n 2, 1), (46, .invokevirtual 71, 3), (49, .pop2, 1), (50, .aload_n 0, 1), (51, .getfield 41, 3), (54, .getfield 168, 3), (57, .iload_n 2, 1), (58, .ineg, 1), (59, .invokevirtual 180, 3), (62, .pop, 1), (63, .goto 52, 3), (66, .iload_n 2, 1), (67, .bipush 40, 2), (69, .if_icmp .eq 11, 3), (72, .aload_n 0, 1), (73, .iconst 1, 1), (74, .invokevirtual 121, 3)]
set_option maxRecDepth 100000 in
theorem dec_X4_parseUnit_0 : dcs cX4_parseUnit DL_X4_parseUnit_0 = true := by decide +kernel
def DL_X4_parseUnit_1 : List (Nat × Instr × Nat) := [(77, .goto 38, 3), (80, .iload_n 1, 1), (81, .bipush 6, 2), (83, .if_icmp .lt 11, 3), (86, .aload_n 0, 1), (87, .iconst 2, 1), (88, .invokevirtual 121, 3), (91, .goto 24, 3), (94, .aload_n 0, 1), (95, .bipush 40, 2), (97, .invokevirtual 71, 3), (100, .pop2, 1), (101, .aload_n 0, 1), (102, .iload_n 1, 1), (103, .iconst 1, 1), (104, .iadd, 1), (105, .invokevirtual 177, 3), (108, .aload_n 0, 1), (109, .bipush 41, 2), (111, .invokevirtual 71, 3), (114, .pop2, 1), (115, .return_, 1)]
set_option maxRecDepth 100000 in
theorem dec_X4_parseUnit_1 : dcs cX4_parseUnit DL_X4_parseUnit_1 = true := by decide +kernel
theorem lb_X4_parseUnit : lkB yX4_parseUnit cX4_parseUnit 3 (none) 1 := ⟨q_656, q_6, ⟨by decide, by decide⟩, by decide +kernel⟩
theorem lv_X4_parseUnit : lkV yX4_parseUnit := ⟨q_655, qs_25⟩
def F_X4_parseUnit_115 (fS : Nat → Int32 → hSt → Option hSt)  (σ : hSt) : Option (hSt) :=
some (σ)
def F_X4_parseUnit_66 (fS : Nat → Int32 → hSt → Option hSt) (a0 : Nat) (l1 : Int32) (l2 : Int32) (σ : hSt) : Option (hSt) :=
if l2 = (40 : Int32) then (
if l1 < (6 : Int32) then (
cC (F_X4_take a0 (40 : Int32) σ) fun v2 σ3 =>
(fS a0 (l1 + (1 : Int32)) σ3).bind fun σ5 =>
cC (F_X4_take a0 (41 : Int32) σ5) fun v7 σ8 =>
F_X4_parseUnit_115 fS  σ8) else (
(F_X4_fail a0 (2 : Int32) σ).bind fun σ10 =>
F_X4_parseUnit_115 fS  σ10)) else (
(F_X4_fail a0 (1 : Int32) σ).bind fun σ12 =>
F_X4_parseUnit_115 fS  σ12)
def F_X4_parseUnit (fS : Nat → Int32 → hSt → Option hSt) (a0 : Nat) (l1 : Int32) (σ : hSt) : Option (hSt) :=
(F_X4_kind a0 σ).bind fun v14 =>
if v14 = (3 : Int32) then (
cR (σ.2.2 a0 3) (okr kC NC 7) fun z23 =>
cR (σ.2.2 z23 5) (okr kC NC 0) fun z24 =>
cC (F_X4_take a0 (3 : Int32) σ) fun v26 σ27 =>
cC (F_X0_add z24 (v26.toInt32) σ27) fun v29 σ30 =>
F_X4_parseUnit_115 fS  σ30) else (
if v14 < (141 : Int32) then (
F_X4_parseUnit_66 fS a0 l1 v14 σ) else (
if (146 : Int32) < v14 then (
F_X4_parseUnit_66 fS a0 l1 v14 σ) else (
cC (F_X4_take a0 v14 σ) fun v16 σ17 =>
cR (σ17.2.2 a0 3) (okr kC NC 7) fun z18 =>
cR (σ17.2.2 z18 5) (okr kC NC 0) fun z19 =>
cC (F_X0_add z19 (-v14) σ17) fun v21 σ22 =>
F_X4_parseUnit_115 fS  σ22)))
section
variable {p : Program} {l : Launch} {e : Env} {s : State} {m : MethodId} {args : Array Value} {below : List Frame} {meth : Method} {c : Code} {D : va_G} {ay : Nat → ClassId} {ad : Nat → Nat}
set_option maxRecDepth 100000 in
set_option maxHeartbeats 4000000 in
theorem B_X4_parseUnit_115 {f0 v0 : Nat} {fS : Nat → Int32 → hSt → Option hSt} (hS : ∀ (a0 : Nat) (l1 : Int32) (σ σ0 : hSt), fS a0 l1 σ = some σ0 → okr kC NC 4 a0 = true → hM l D ay kC NC ad yX4_parseSum cX4_parseSum 4 (none) (rmK f0 v0) [.ref (ad a0), .int l1] σ (cV D ay kC NC ad σ0)) {H : Heap} {locs : List Loc} {ls : Array Slot} {σ0 : hSt}  (σ : hSt) (G : Gx p m c cX4_parseUnit 3 s args RX4 D ay NC ad (aN NC ad)) (hm : meth.sig.returnType = none ∧ meth.locks = false)  (hf : F_X4_parseUnit_115 fS  σ = some σ0)  (w : Wd D ay kC NC ad (aN NC ad) s σ H locs) (hl : lv_has ls 3 []) : W p l e (rmK (f0 + 4) (v0 + 100)) s m args below meth c H locs 0 0 (MQ below (cV D ay kC NC ad σ0) args s 0 0 (aN NC ad)) (F0 m 115 ls []) := by
  unfold F_X4_parseUnit_115 at hf
  have e9 := Option.some.inj hf
  exact r_vret G w hm e9 (dcs_get dec_X4_parseUnit_1 21 rfl)
set_option maxRecDepth 100000 in
set_option maxHeartbeats 4000000 in
theorem B_X4_parseUnit_66 {f0 v0 : Nat} {fS : Nat → Int32 → hSt → Option hSt} (hS : ∀ (a0 : Nat) (l1 : Int32) (σ σ0 : hSt), fS a0 l1 σ = some σ0 → okr kC NC 4 a0 = true → hM l D ay kC NC ad yX4_parseSum cX4_parseSum 4 (none) (rmK f0 v0) [.ref (ad a0), .int l1] σ (cV D ay kC NC ad σ0)) {H : Heap} {locs : List Loc} {ls : Array Slot} {σ0 : hSt} (a0 : Nat) (l1 : Int32) (l2 : Int32) (σ : hSt) (G : Gx p m c cX4_parseUnit 3 s args RX4 D ay NC ad (aN NC ad)) (hm : meth.sig.returnType = none ∧ meth.locks = false) (ok_a0 : okr kC NC 4 a0 = true) (hf : F_X4_parseUnit_66 fS a0 l1 l2 σ = some σ0)  (w : Wd D ay kC NC ad (aN NC ad) s σ H locs) (hl : lv_has ls 3 [(0, .ref (ad a0)), (1, .int l1), (2, .int l2)]) : W p l e (rmK (f0 + 4) (v0 + 100)) s m args below meth c H locs 0 0 (MQ below (cV D ay kC NC ad σ0) args s 0 0 (aN NC ad)) (F0 m 66 ls []) := by
  have k_a0 := okr_in ok_a0
  unfold F_X4_parseUnit_66 at hf
  refine lv_iload_n G.hx G.hb (dcs_get dec_X4_parseUnit_0 34 rfl) rfl (lv_at hl 2 rfl) ?_
  refine lv_bipush (v := (40 : Int32)) G.hx G.hb (dcs_get dec_X4_parseUnit_0 35 rfl) (by decide) ?_
  refine lv_icmp_eq (tgt := 80) G.hx G.hb (dcs_get dec_X4_parseUnit_0 36 rfl) (by decide) (fun hc => ?_) (fun hc => ?_)
  · rw [if_pos hc] at hf
    refine lv_iload_n G.hx G.hb (dcs_get dec_X4_parseUnit_1 1 rfl) rfl (lv_at hl 1 rfl) ?_
    refine lv_bipush (v := (6 : Int32)) G.hx G.hb (dcs_get dec_X4_parseUnit_1 2 rfl) (by decide) ?_
    refine lv_icmp_lt (tgt := 94) G.hx G.hb (dcs_get dec_X4_parseUnit_1 3 rfl) (by decide) (fun hc => ?_) (fun hc => ?_)
    · rw [if_pos hc] at hf
      refine lv_aload_n G.hx G.hb (dcs_get dec_X4_parseUnit_1 8 rfl) rfl (lv_at hl 0 rfl) ?_
      refine lv_bipush (v := (40 : Int32)) G.hx G.hb (dcs_get dec_X4_parseUnit_1 9 rfl) (by decide) ?_
      obtain ⟨v2, σ3, h1, hf⟩ := cC_some hf
      refine a_l (k_V (As := [.int (40 : Int32)]) (rest := []) cls4 lb_X4_take lv_X4_take q_613 (C_X4_take G.2.2.1 a0 (40 : Int32) σ h1 ok_a0) ⟨(by dsimp only [rmK]; omega), (by dsimp only [rmK]; omega)⟩ G w k_a0.1 k_a0.2 rfl rfl hl.1 (Nat.le_of_ble_eq_true rfl) (dcs_get dec_X4_parseUnit_1 10 rfl) ⟨Nat.le_refl _, Nat.le_refl _⟩) G w (fun H locs w => ?_)
      refine lv_pop2_2 G.hx G.hb (dcs_get dec_X4_parseUnit_1 11 rfl) rfl ?_
      refine lv_aload_n G.hx G.hb (dcs_get dec_X4_parseUnit_1 12 rfl) rfl (lv_at hl 0 rfl) ?_
      refine lv_iload_n G.hx G.hb (dcs_get dec_X4_parseUnit_1 13 rfl) rfl (lv_at hl 1 rfl) ?_
      refine lv_iconst (v := (1 : Int32)) G.hx G.hb (dcs_get dec_X4_parseUnit_1 14 rfl) (by decide) ?_
      refine lv_iadd G.hx G.hb (dcs_get dec_X4_parseUnit_1 15 rfl) ?_
      obtain ⟨σ5, h4, hf⟩ := cB_some hf
      refine a_v (k_V (As := [.int (l1 + (1 : Int32))]) (rest := []) cls4 lb_X4_parseSum lv_X4_parseSum q_645 (hS a0 (l1 + (1 : Int32)) σ3 _ h4 ok_a0) ⟨(by dsimp only [rmK]; omega), (by dsimp only [rmK]; omega)⟩ G w k_a0.1 k_a0.2 rfl rfl hl.1 (Nat.le_of_ble_eq_true rfl) (dcs_get dec_X4_parseUnit_1 16 rfl) ⟨Nat.le_refl _, Nat.le_refl _⟩) G w (fun H locs w => ?_)
      refine lv_aload_n G.hx G.hb (dcs_get dec_X4_parseUnit_1 17 rfl) rfl (lv_at hl 0 rfl) ?_
      refine lv_bipush (v := (41 : Int32)) G.hx G.hb (dcs_get dec_X4_parseUnit_1 18 rfl) (by decide) ?_
      obtain ⟨v7, σ8, h6, hf⟩ := cC_some hf
      refine a_l (k_V (As := [.int (41 : Int32)]) (rest := []) cls4 lb_X4_take lv_X4_take q_613 (C_X4_take G.2.2.1 a0 (41 : Int32) σ5 h6 ok_a0) ⟨(by dsimp only [rmK]; omega), (by dsimp only [rmK]; omega)⟩ G w k_a0.1 k_a0.2 rfl rfl hl.1 (Nat.le_of_ble_eq_true rfl) (dcs_get dec_X4_parseUnit_1 19 rfl) ⟨Nat.le_refl _, Nat.le_refl _⟩) G w (fun H locs w => ?_)
      refine lv_pop2_2 G.hx G.hb (dcs_get dec_X4_parseUnit_1 20 rfl) rfl ?_
      exact B_X4_parseUnit_115 hS  σ8 G hm  hf  w (lv_sub hl [] rfl)
    · rw [if_neg hc] at hf
      refine lv_aload_n G.hx G.hb (dcs_get dec_X4_parseUnit_1 4 rfl) rfl (lv_at hl 0 rfl) ?_
      refine lv_iconst (v := (2 : Int32)) G.hx G.hb (dcs_get dec_X4_parseUnit_1 5 rfl) (by decide) ?_
      obtain ⟨σ10, h9, hf⟩ := cB_some hf
      refine a_v (k_V (As := [.int (2 : Int32)]) (rest := []) cls4 lb_X4_fail lv_X4_fail q_609 (C_X4_fail G.2.2.1 a0 (2 : Int32) σ h9 ok_a0) ⟨(by dsimp only [rmK]; omega), (by dsimp only [rmK]; omega)⟩ G w k_a0.1 k_a0.2 rfl rfl hl.1 (Nat.le_of_ble_eq_true rfl) (dcs_get dec_X4_parseUnit_1 6 rfl) ⟨Nat.le_refl _, Nat.le_refl _⟩) G w (fun H locs w => ?_)
      refine lv_goto (tgt := 115) G.hx G.hb (dcs_get dec_X4_parseUnit_1 7 rfl) (by decide) ?_
      exact B_X4_parseUnit_115 hS  σ10 G hm  hf  w (lv_sub hl [] rfl)
  · rw [if_neg hc] at hf
    refine lv_aload_n G.hx G.hb (dcs_get dec_X4_parseUnit_0 37 rfl) rfl (lv_at hl 0 rfl) ?_
    refine lv_iconst (v := (1 : Int32)) G.hx G.hb (dcs_get dec_X4_parseUnit_0 38 rfl) (by decide) ?_
    obtain ⟨σ12, h11, hf⟩ := cB_some hf
    refine a_v (k_V (As := [.int (1 : Int32)]) (rest := []) cls4 lb_X4_fail lv_X4_fail q_609 (C_X4_fail G.2.2.1 a0 (1 : Int32) σ h11 ok_a0) ⟨(by dsimp only [rmK]; omega), (by dsimp only [rmK]; omega)⟩ G w k_a0.1 k_a0.2 rfl rfl hl.1 (Nat.le_of_ble_eq_true rfl) (dcs_get dec_X4_parseUnit_0 39 rfl) ⟨Nat.le_refl _, Nat.le_refl _⟩) G w (fun H locs w => ?_)
    refine lv_goto (tgt := 115) G.hx G.hb (dcs_get dec_X4_parseUnit_1 0 rfl) (by decide) ?_
    exact B_X4_parseUnit_115 hS  σ12 G hm  hf  w (lv_sub hl [] rfl)
set_option maxRecDepth 100000 in
set_option maxHeartbeats 4000000 in
theorem B_X4_parseUnit_0 {f0 v0 : Nat} {fS : Nat → Int32 → hSt → Option hSt} (hS : ∀ (a0 : Nat) (l1 : Int32) (σ σ0 : hSt), fS a0 l1 σ = some σ0 → okr kC NC 4 a0 = true → hM l D ay kC NC ad yX4_parseSum cX4_parseSum 4 (none) (rmK f0 v0) [.ref (ad a0), .int l1] σ (cV D ay kC NC ad σ0)) {H : Heap} {locs : List Loc} {ls : Array Slot} {σ0 : hSt} (a0 : Nat) (l1 : Int32) (σ : hSt) (G : Gx p m c cX4_parseUnit 3 s args RX4 D ay NC ad (aN NC ad)) (hm : meth.sig.returnType = none ∧ meth.locks = false) (ok_a0 : okr kC NC 4 a0 = true) (hf : F_X4_parseUnit fS a0 l1 σ = some σ0)  (w : Wd D ay kC NC ad (aN NC ad) s σ H locs) (hl : lv_has ls 3 [(0, .ref (ad a0)), (1, .int l1)]) : W p l e (rmK (f0 + 4) (v0 + 100)) s m args below meth c H locs 0 0 (MQ below (cV D ay kC NC ad σ0) args s 0 0 (aN NC ad)) (F0 m 0 ls []) := by
  have k_a0 := okr_in ok_a0
  unfold F_X4_parseUnit at hf
  refine lv_aload_n G.hx G.hb (dcs_get dec_X4_parseUnit_0 0 rfl) rfl (lv_at hl 0 rfl) ?_
  obtain ⟨v14, h13, hf⟩ := cB_some hf
  refine a_i (k_V (As := []) (rest := []) cls4 lb_X4_kind lv_X4_kind q_597 (C_X4_kind G.2.2.1 a0 σ h13 ok_a0) ⟨(by dsimp only [rmK]; omega), (by dsimp only [rmK]; omega)⟩ G w k_a0.1 k_a0.2 rfl rfl hl.1 (Nat.le_of_ble_eq_true rfl) (dcs_get dec_X4_parseUnit_0 1 rfl) ⟨Nat.le_refl _, Nat.le_refl _⟩) G w (fun H locs w => ?_)
  refine lv_istore_n (lv' := [(2, .int v14), (0, .ref (ad a0)), (1, .int l1)]) G.hx G.hb (dcs_get dec_X4_parseUnit_0 2 rfl) rfl hl (by decide) rfl (fun ls hl => ?_)
  refine lv_iload_n G.hx G.hb (dcs_get dec_X4_parseUnit_0 3 rfl) rfl (lv_at hl 0 rfl) ?_
  refine lv_iconst (v := (3 : Int32)) G.hx G.hb (dcs_get dec_X4_parseUnit_0 4 rfl) (by decide) ?_
  refine lv_icmp_ne (tgt := 30) G.hx G.hb (dcs_get dec_X4_parseUnit_0 5 rfl) (by decide) (fun hc => ?_) (fun hc => ?_)
  · rw [if_neg hc] at hf
    refine lv_iload_n G.hx G.hb (dcs_get dec_X4_parseUnit_0 16 rfl) rfl (lv_at hl 0 rfl) ?_
    refine lv_sipush (v := (141 : Int32)) G.hx G.hb (dcs_get dec_X4_parseUnit_0 17 rfl) (by decide) ?_
    refine lv_icmp_lt (tgt := 66) G.hx G.hb (dcs_get dec_X4_parseUnit_0 18 rfl) (by decide) (fun hc => ?_) (fun hc => ?_)
    · rw [if_pos hc] at hf
      exact B_X4_parseUnit_66 hS a0 l1 v14 σ G hm ok_a0 hf  w (lv_sub hl [1, 2, 0] rfl)
    · rw [if_neg hc] at hf
      refine lv_iload_n G.hx G.hb (dcs_get dec_X4_parseUnit_0 19 rfl) rfl (lv_at hl 0 rfl) ?_
      refine lv_sipush (v := (146 : Int32)) G.hx G.hb (dcs_get dec_X4_parseUnit_0 20 rfl) (by decide) ?_
      refine lv_icmp_gt (tgt := 66) G.hx G.hb (dcs_get dec_X4_parseUnit_0 21 rfl) (by decide) (fun hc => ?_) (fun hc => ?_)
      · rw [if_pos hc] at hf
        exact B_X4_parseUnit_66 hS a0 l1 v14 σ G hm ok_a0 hf  w (lv_sub hl [1, 2, 0] rfl)
      · rw [if_neg hc] at hf
        refine lv_aload_n G.hx G.hb (dcs_get dec_X4_parseUnit_0 22 rfl) rfl (lv_at hl 1 rfl) ?_
        refine lv_iload_n G.hx G.hb (dcs_get dec_X4_parseUnit_0 23 rfl) rfl (lv_at hl 0 rfl) ?_
        obtain ⟨v16, σ17, h15, hf⟩ := cC_some hf
        refine a_l (k_V (As := [.int v14]) (rest := []) cls4 lb_X4_take lv_X4_take q_613 (C_X4_take G.2.2.1 a0 v14 σ h15 ok_a0) ⟨(by dsimp only [rmK]; omega), (by dsimp only [rmK]; omega)⟩ G w k_a0.1 k_a0.2 rfl rfl hl.1 (Nat.le_of_ble_eq_true rfl) (dcs_get dec_X4_parseUnit_0 24 rfl) ⟨Nat.le_refl _, Nat.le_refl _⟩) G w (fun H locs w => ?_)
        refine lv_pop2_2 G.hx G.hb (dcs_get dec_X4_parseUnit_0 25 rfl) rfl ?_
        refine lv_aload_n G.hx G.hb (dcs_get dec_X4_parseUnit_0 26 rfl) rfl (lv_at hl 1 rfl) ?_
        obtain ⟨z18, e_z18, ok_z18, hf⟩ := cR_some hf
        have k_z18 := okr_in ok_z18
        refine r_getr (k := 3) cls4 fi_4_3.1 fi_4_3.2 q_200 G w k_a0.1 k_a0.2 e_z18 (dcs_get dec_X4_parseUnit_0 27 rfl) ?_
        obtain ⟨z19, e_z19, ok_z19, hf⟩ := cR_some hf
        have k_z19 := okr_in ok_z19
        refine r_getrN (k := 5) cls7 fi_7_5.1 fi_7_5.2 nf_110 G w k_z18.1 k_z18.2 e_z19 (dcs_get dec_X4_parseUnit_0 28 rfl) ?_
        refine lv_iload_n G.hx G.hb (dcs_get dec_X4_parseUnit_0 29 rfl) rfl (lv_at hl 0 rfl) ?_
        refine lv_ineg G.hx G.hb (dcs_get dec_X4_parseUnit_0 30 rfl) ?_
        obtain ⟨v21, σ22, h20, hf⟩ := cC_some hf
        refine a_i (k_VN (As := [.int (-v14)]) (rest := []) cls0 lb_X0_add lv_X0_add nm_657 (C_X0_add G.2.2.1 z19 (-v14) σ17 h20 ok_z19) ⟨(by dsimp only [rmK]; omega), (by dsimp only [rmK]; omega)⟩ G w k_z19.1 k_z19.2 rfl rfl hl.1 (Nat.le_of_ble_eq_true rfl) (dcs_get dec_X4_parseUnit_0 31 rfl) ⟨Nat.le_refl _, Nat.le_refl _⟩) G w (fun H locs w => ?_)
        refine lv_pop G.hx G.hb (dcs_get dec_X4_parseUnit_0 32 rfl) rfl ?_
        refine lv_goto (tgt := 115) G.hx G.hb (dcs_get dec_X4_parseUnit_0 33 rfl) (by decide) ?_
        exact B_X4_parseUnit_115 hS  σ22 G hm  hf  w (lv_sub hl [] rfl)
  · rw [if_pos hc] at hf
    refine lv_aload_n G.hx G.hb (dcs_get dec_X4_parseUnit_0 6 rfl) rfl (lv_at hl 1 rfl) ?_
    obtain ⟨z23, e_z23, ok_z23, hf⟩ := cR_some hf
    have k_z23 := okr_in ok_z23
    refine r_getr (k := 3) cls4 fi_4_3.1 fi_4_3.2 q_200 G w k_a0.1 k_a0.2 e_z23 (dcs_get dec_X4_parseUnit_0 7 rfl) ?_
    obtain ⟨z24, e_z24, ok_z24, hf⟩ := cR_some hf
    have k_z24 := okr_in ok_z24
    refine r_getrN (k := 5) cls7 fi_7_5.1 fi_7_5.2 nf_110 G w k_z23.1 k_z23.2 e_z24 (dcs_get dec_X4_parseUnit_0 8 rfl) ?_
    refine lv_aload_n G.hx G.hb (dcs_get dec_X4_parseUnit_0 9 rfl) rfl (lv_at hl 1 rfl) ?_
    refine lv_iconst (v := (3 : Int32)) G.hx G.hb (dcs_get dec_X4_parseUnit_0 10 rfl) (by decide) ?_
    obtain ⟨v26, σ27, h25, hf⟩ := cC_some hf
    refine a_l (k_V (As := [.int (3 : Int32)]) (rest := [.ref (ad z24)]) cls4 lb_X4_take lv_X4_take q_613 (C_X4_take G.2.2.1 a0 (3 : Int32) σ h25 ok_a0) ⟨(by dsimp only [rmK]; omega), (by dsimp only [rmK]; omega)⟩ G w k_a0.1 k_a0.2 rfl rfl hl.1 (Nat.le_of_ble_eq_true rfl) (dcs_get dec_X4_parseUnit_0 11 rfl) ⟨Nat.le_refl _, Nat.le_refl _⟩) G w (fun H locs w => ?_)
    refine lv_l2i G.hx G.hb (dcs_get dec_X4_parseUnit_0 12 rfl) rfl ?_
    obtain ⟨v29, σ30, h28, hf⟩ := cC_some hf
    refine a_i (k_VN (As := [.int (v26.toInt32)]) (rest := []) cls0 lb_X0_add lv_X0_add nm_657 (C_X0_add G.2.2.1 z24 (v26.toInt32) σ27 h28 ok_z24) ⟨(by dsimp only [rmK]; omega), (by dsimp only [rmK]; omega)⟩ G w k_z24.1 k_z24.2 rfl rfl hl.1 (Nat.le_of_ble_eq_true rfl) (dcs_get dec_X4_parseUnit_0 13 rfl) ⟨Nat.le_refl _, Nat.le_refl _⟩) G w (fun H locs w => ?_)
    refine lv_pop G.hx G.hb (dcs_get dec_X4_parseUnit_0 14 rfl) rfl ?_
    refine lv_goto (tgt := 115) G.hx G.hb (dcs_get dec_X4_parseUnit_0 15 rfl) (by decide) ?_
    exact B_X4_parseUnit_115 hS  σ30 G hm  hf  w (lv_sub hl [] rfl)
end
set_option maxRecDepth 100000 in
set_option maxHeartbeats 4000000 in
theorem C_X4_parseUnit {l : Launch} {D : va_G} {ay : Nat → ClassId} {ad : Nat → Nat} {f0 v0 : Nat} {fS : Nat → Int32 → hSt → Option hSt} (hS : ∀ (a0 : Nat) (l1 : Int32) (σ σ0 : hSt), fS a0 l1 σ = some σ0 → okr kC NC 4 a0 = true → hM l D ay kC NC ad yX4_parseSum cX4_parseSum 4 (none) (rmK f0 v0) [.ref (ad a0), .int l1] σ (cV D ay kC NC ad σ0)) (hi : hInj NC ad) (a0 : Nat) (l1 : Int32) (σ : hSt) {σ0 : hSt} (hf : F_X4_parseUnit fS a0 l1 σ = some σ0) (ok_a0 : okr kC NC 4 a0 = true) : hM l D ay kC NC ad yX4_parseUnit cX4_parseUnit 3 (none) (rmK (f0 + 4) (v0 + 100)) [.ref (ad a0), .int l1] σ (cV D ay kC NC ad σ0) := by
  refine hM_in (by decide) hi (Nat.le_of_ble_eq_true rfl) ?_
  intro p e s m below meth c G hm w ls hl
  exact B_X4_parseUnit_0 hS a0 l1 σ G hm ok_a0 hf w (lv_sub hl [0, 1] rfl)

/-! HillDrums.Reader.parseProduct(I)V -/
def DL_X4_parseProduct_0 : List (Nat × Instr × Nat) := [(0, .aload_n 0, 1), (1, .iload_n 1, 1), (2, .invokevirtual 190, 3), (5, .iconst 0, 1), (6, .istore_n 2, 1), (7, .iload_n 2, 1), (8, .sipush 401, 3), (11, .if_icmp .ge 56, 3), (14, .aload_n 0, 1), (15, .invokevirtual 54, 3), (18, .bipush 42, 2), (20, .if_icmp .eq 12, 3), (23, .aload_n 0, 1), (24, .invokevirtual 54, 3), (27, .bipush 47, 2), (29, .if_icmp .ne 38, 3), (32, .aload_n 0, 1), (33, .invokevirtual 54, 3), (36, .istore_n 3, 1), (37, .aload_n 0, 1), (38, .iload_n 3, 1), (39, .invokevirtual 71, 3), (42, .pop2, 1), (43, .aload_n 0, 1), (44, .iload_n 1, 1), (45, .invokevirtual 190, 3), (48, .aload_n 0, 1), (49, .getfield 41, 3), (52, .getfield 168, 3), (55, .iload_n 3, 1), (56, .ineg, 1), (57, .invokevirtual 180, 3), (60, .pop, 1), (61, .iinc 2 1, 3), (64, .goto (-57), 3), (67, .return_, 1)]
set_option maxRecDepth 100000 in
theorem dec_X4_parseProduct_0 : dcs cX4_parseProduct DL_X4_parseProduct_0 = true := by decide +kernel
theorem lb_X4_parseProduct : lkB yX4_parseProduct cX4_parseProduct 4 (none) 1 := ⟨q_652, q_6, ⟨by decide, by decide⟩, by decide +kernel⟩
theorem lv_X4_parseProduct : lkV yX4_parseProduct := ⟨q_651, qs_24⟩
def F_X4_parseProduct_32 (fS : Nat → Int32 → hSt → Option hSt) (a0 : Nat) (l1 : Int32) (l2 : Int32) (σ : hSt) : Option ((Int32 × hSt) ⊕ (hSt)) :=
(F_X4_kind a0 σ).bind fun v2 =>
cC (F_X4_take a0 v2 σ) fun v4 σ5 =>
(F_X4_parseUnit fS a0 l1 σ5).bind fun σ7 =>
cR (σ7.2.2 a0 3) (okr kC NC 7) fun z8 =>
cR (σ7.2.2 z8 5) (okr kC NC 0) fun z9 =>
cC (F_X0_add z9 (-v2) σ7) fun v11 σ12 =>
cL (l2 + (1 : Int32)) fun v13 =>
some (.inl (v13, σ12))
def F_X4_parseProduct_67 (fS : Nat → Int32 → hSt → Option hSt)  (σ : hSt) : Option (hSt) :=
some (σ)
def F_X4_parseProduct_7b (fS : Nat → Int32 → hSt → Option hSt) (a0 : Nat) (l1 : Int32) (l2 : Int32) (σ : hSt) : Option ((Int32 × hSt) ⊕ (hSt)) :=
if (401 : Int32) ≤ l2 then (
(F_X4_parseProduct_67 fS  σ).map (fun x => .inr (x))) else (
(F_X4_kind a0 σ).bind fun v15 =>
if v15 = (42 : Int32) then (
F_X4_parseProduct_32 fS a0 l1 l2 σ) else (
(F_X4_kind a0 σ).bind fun v17 =>
if v17 = (47 : Int32) then (
F_X4_parseProduct_32 fS a0 l1 l2 σ) else (
(F_X4_parseProduct_67 fS  σ).map (fun x => .inr (x)))))
def S_X4_parseProduct_7 (fS : Nat → Int32 → hSt → Option hSt) (a0 : Nat) (l1 : Int32) (v : Int32 × hSt) : Option ((Int32 × hSt) ⊕ (hSt)) := F_X4_parseProduct_7b fS a0 l1 v.1 v.2
def F_X4_parseProduct_7 (fS : Nat → Int32 → hSt → Option hSt) (a0 : Nat) (l1 : Int32) (l2 : Int32) (σ : hSt) : Option (hSt) := lp (S_X4_parseProduct_7 fS a0 l1) fuel (l2, σ)
def F_X4_parseProduct (fS : Nat → Int32 → hSt → Option hSt) (a0 : Nat) (l1 : Int32) (σ : hSt) : Option (hSt) :=
(F_X4_parseUnit fS a0 l1 σ).bind fun σ19 =>
F_X4_parseProduct_7 fS a0 l1 (0 : Int32) σ19
section
variable {p : Program} {l : Launch} {e : Env} {s : State} {m : MethodId} {args : Array Value} {below : List Frame} {meth : Method} {c : Code} {D : va_G} {ay : Nat → ClassId} {ad : Nat → Nat}
set_option maxRecDepth 100000 in
set_option maxHeartbeats 4000000 in
theorem B_X4_parseProduct_32 {f0 v0 : Nat} {fS : Nat → Int32 → hSt → Option hSt} (hS : ∀ (a0 : Nat) (l1 : Int32) (σ σ0 : hSt), fS a0 l1 σ = some σ0 → okr kC NC 4 a0 = true → hM l D ay kC NC ad yX4_parseSum cX4_parseSum 4 (none) (rmK f0 v0) [.ref (ad a0), .int l1] σ (cV D ay kC NC ad σ0)) {H : Heap} {locs : List Loc} {ls : Array Slot} {σ0 : hSt} {o : (Int32 × hSt) ⊕ (hSt)} (a0 : Nat) (l1 : Int32) (l2 : Int32) (σ : hSt) (G : Gx p m c cX4_parseProduct 4 s args RX4 D ay NC ad (aN NC ad)) (hm : meth.sig.returnType = none ∧ meth.locks = false) (ok_a0 : okr kC NC 4 a0 = true) (hf : F_X4_parseProduct_32 fS a0 l1 l2 σ = some o) (hb0 : ∀ (v : Int32 × hSt), o = .inl v → ∀ (H : Heap) (locs : List Loc) (ls : Array Slot), Wd D ay kC NC ad (aN NC ad) s v.2 H locs → lv_has ls 4 [(0, .ref (ad a0)), (1, .int l1), (2, .int v.1)] → W p l e (rmK (f0 + 8) (v0 + 200)) s m args below meth c H locs 0 0 (MQ below (cV D ay kC NC ad σ0) args s 0 0 (aN NC ad)) (F0 m 7 ls [])) (hr : ∀ x, o = .inr (x) → x = σ0) (w : Wd D ay kC NC ad (aN NC ad) s σ H locs) (hl : lv_has ls 4 [(0, .ref (ad a0)), (1, .int l1), (2, .int l2)]) : W p l e (rmK (f0 + 8) (v0 + 200)) s m args below meth c H locs 0 0 (MQ below (cV D ay kC NC ad σ0) args s 0 0 (aN NC ad)) (F0 m 32 ls []) := by
  have k_a0 := okr_in ok_a0
  unfold F_X4_parseProduct_32 at hf
  refine lv_aload_n G.hx G.hb (dcs_get dec_X4_parseProduct_0 16 rfl) rfl (lv_at hl 0 rfl) ?_
  obtain ⟨v2, h1, hf⟩ := cB_some hf
  refine a_i (k_V (As := []) (rest := []) cls4 lb_X4_kind lv_X4_kind q_597 (C_X4_kind G.2.2.1 a0 σ h1 ok_a0) ⟨(by dsimp only [rmK]; omega), (by dsimp only [rmK]; omega)⟩ G w k_a0.1 k_a0.2 rfl rfl hl.1 (Nat.le_of_ble_eq_true rfl) (dcs_get dec_X4_parseProduct_0 17 rfl) ⟨Nat.le_refl _, Nat.le_refl _⟩) G w (fun H locs w => ?_)
  refine lv_istore_n (lv' := [(3, .int v2), (0, .ref (ad a0)), (1, .int l1), (2, .int l2)]) G.hx G.hb (dcs_get dec_X4_parseProduct_0 18 rfl) rfl hl (by decide) rfl (fun ls hl => ?_)
  refine lv_aload_n G.hx G.hb (dcs_get dec_X4_parseProduct_0 19 rfl) rfl (lv_at hl 1 rfl) ?_
  refine lv_iload_n G.hx G.hb (dcs_get dec_X4_parseProduct_0 20 rfl) rfl (lv_at hl 0 rfl) ?_
  obtain ⟨v4, σ5, h3, hf⟩ := cC_some hf
  refine a_l (k_V (As := [.int v2]) (rest := []) cls4 lb_X4_take lv_X4_take q_613 (C_X4_take G.2.2.1 a0 v2 σ h3 ok_a0) ⟨(by dsimp only [rmK]; omega), (by dsimp only [rmK]; omega)⟩ G w k_a0.1 k_a0.2 rfl rfl hl.1 (Nat.le_of_ble_eq_true rfl) (dcs_get dec_X4_parseProduct_0 21 rfl) ⟨Nat.le_refl _, Nat.le_refl _⟩) G w (fun H locs w => ?_)
  refine lv_pop2_2 G.hx G.hb (dcs_get dec_X4_parseProduct_0 22 rfl) rfl ?_
  refine lv_aload_n G.hx G.hb (dcs_get dec_X4_parseProduct_0 23 rfl) rfl (lv_at hl 1 rfl) ?_
  refine lv_iload_n G.hx G.hb (dcs_get dec_X4_parseProduct_0 24 rfl) rfl (lv_at hl 2 rfl) ?_
  obtain ⟨σ7, h6, hf⟩ := cB_some hf
  refine a_v (k_V (As := [.int l1]) (rest := []) cls4 lb_X4_parseUnit lv_X4_parseUnit q_653 (C_X4_parseUnit hS G.2.2.1 a0 l1 σ5 h6 ok_a0) ⟨(by dsimp only [rmK]; omega), (by dsimp only [rmK]; omega)⟩ G w k_a0.1 k_a0.2 rfl rfl hl.1 (Nat.le_of_ble_eq_true rfl) (dcs_get dec_X4_parseProduct_0 25 rfl) ⟨Nat.le_refl _, Nat.le_refl _⟩) G w (fun H locs w => ?_)
  refine lv_aload_n G.hx G.hb (dcs_get dec_X4_parseProduct_0 26 rfl) rfl (lv_at hl 1 rfl) ?_
  obtain ⟨z8, e_z8, ok_z8, hf⟩ := cR_some hf
  have k_z8 := okr_in ok_z8
  refine r_getr (k := 3) cls4 fi_4_3.1 fi_4_3.2 q_200 G w k_a0.1 k_a0.2 e_z8 (dcs_get dec_X4_parseProduct_0 27 rfl) ?_
  obtain ⟨z9, e_z9, ok_z9, hf⟩ := cR_some hf
  have k_z9 := okr_in ok_z9
  refine r_getrN (k := 5) cls7 fi_7_5.1 fi_7_5.2 nf_110 G w k_z8.1 k_z8.2 e_z9 (dcs_get dec_X4_parseProduct_0 28 rfl) ?_
  refine lv_iload_n G.hx G.hb (dcs_get dec_X4_parseProduct_0 29 rfl) rfl (lv_at hl 0 rfl) ?_
  refine lv_ineg G.hx G.hb (dcs_get dec_X4_parseProduct_0 30 rfl) ?_
  obtain ⟨v11, σ12, h10, hf⟩ := cC_some hf
  refine a_i (k_VN (As := [.int (-v2)]) (rest := []) cls0 lb_X0_add lv_X0_add nm_657 (C_X0_add G.2.2.1 z9 (-v2) σ7 h10 ok_z9) ⟨(by dsimp only [rmK]; omega), (by dsimp only [rmK]; omega)⟩ G w k_z9.1 k_z9.2 rfl rfl hl.1 (Nat.le_of_ble_eq_true rfl) (dcs_get dec_X4_parseProduct_0 31 rfl) ⟨Nat.le_refl _, Nat.le_refl _⟩) G w (fun H locs w => ?_)
  refine lv_pop G.hx G.hb (dcs_get dec_X4_parseProduct_0 32 rfl) rfl ?_
  obtain ⟨v13, e_v13, hf⟩ := cL_some hf
  refine lv_iinc (v := v13) (lv' := [(2, .int v13), (3, .int v2), (0, .ref (ad a0)), (1, .int l1)]) G.hx G.hb (dcs_get dec_X4_parseProduct_0 33 rfl) hl (k := 3) rfl (by rw [e_v13]; rfl) (by decide) rfl (fun ls hl => ?_)
  refine lv_goto (tgt := 7) G.hx G.hb (dcs_get dec_X4_parseProduct_0 34 rfl) (by decide) ?_
  exact hb0 _ (Option.some.inj hf).symm _ _ _ w (lv_sub hl [2, 3, 0] rfl)
set_option maxRecDepth 100000 in
set_option maxHeartbeats 4000000 in
theorem B_X4_parseProduct_67 {f0 v0 : Nat} {fS : Nat → Int32 → hSt → Option hSt} (hS : ∀ (a0 : Nat) (l1 : Int32) (σ σ0 : hSt), fS a0 l1 σ = some σ0 → okr kC NC 4 a0 = true → hM l D ay kC NC ad yX4_parseSum cX4_parseSum 4 (none) (rmK f0 v0) [.ref (ad a0), .int l1] σ (cV D ay kC NC ad σ0)) {H : Heap} {locs : List Loc} {ls : Array Slot} {σ0 : hSt}  (σ : hSt) (G : Gx p m c cX4_parseProduct 4 s args RX4 D ay NC ad (aN NC ad)) (hm : meth.sig.returnType = none ∧ meth.locks = false)  (hf : F_X4_parseProduct_67 fS  σ = some σ0)  (w : Wd D ay kC NC ad (aN NC ad) s σ H locs) (hl : lv_has ls 4 []) : W p l e (rmK (f0 + 8) (v0 + 200)) s m args below meth c H locs 0 0 (MQ below (cV D ay kC NC ad σ0) args s 0 0 (aN NC ad)) (F0 m 67 ls []) := by
  unfold F_X4_parseProduct_67 at hf
  have e9 := Option.some.inj hf
  exact r_vret G w hm e9 (dcs_get dec_X4_parseProduct_0 35 rfl)
set_option maxRecDepth 100000 in
set_option maxHeartbeats 4000000 in
theorem B_X4_parseProduct_7b {f0 v0 : Nat} {fS : Nat → Int32 → hSt → Option hSt} (hS : ∀ (a0 : Nat) (l1 : Int32) (σ σ0 : hSt), fS a0 l1 σ = some σ0 → okr kC NC 4 a0 = true → hM l D ay kC NC ad yX4_parseSum cX4_parseSum 4 (none) (rmK f0 v0) [.ref (ad a0), .int l1] σ (cV D ay kC NC ad σ0)) {H : Heap} {locs : List Loc} {ls : Array Slot} {σ0 : hSt} {o : (Int32 × hSt) ⊕ (hSt)} (a0 : Nat) (l1 : Int32) (l2 : Int32) (σ : hSt) (G : Gx p m c cX4_parseProduct 4 s args RX4 D ay NC ad (aN NC ad)) (hm : meth.sig.returnType = none ∧ meth.locks = false) (ok_a0 : okr kC NC 4 a0 = true) (hf : F_X4_parseProduct_7b fS a0 l1 l2 σ = some o) (hb0 : ∀ (v : Int32 × hSt), o = .inl v → ∀ (H : Heap) (locs : List Loc) (ls : Array Slot), Wd D ay kC NC ad (aN NC ad) s v.2 H locs → lv_has ls 4 [(0, .ref (ad a0)), (1, .int l1), (2, .int v.1)] → W p l e (rmK (f0 + 8) (v0 + 200)) s m args below meth c H locs 0 0 (MQ below (cV D ay kC NC ad σ0) args s 0 0 (aN NC ad)) (F0 m 7 ls [])) (hr : ∀ x, o = .inr (x) → x = σ0) (w : Wd D ay kC NC ad (aN NC ad) s σ H locs) (hl : lv_has ls 4 [(0, .ref (ad a0)), (1, .int l1), (2, .int l2)]) : W p l e (rmK (f0 + 8) (v0 + 200)) s m args below meth c H locs 0 0 (MQ below (cV D ay kC NC ad σ0) args s 0 0 (aN NC ad)) (F0 m 7 ls []) := by
  have k_a0 := okr_in ok_a0
  unfold F_X4_parseProduct_7b at hf
  refine lv_iload_n G.hx G.hb (dcs_get dec_X4_parseProduct_0 5 rfl) rfl (lv_at hl 2 rfl) ?_
  refine lv_sipush (v := (401 : Int32)) G.hx G.hb (dcs_get dec_X4_parseProduct_0 6 rfl) (by decide) ?_
  refine lv_icmp_ge (tgt := 67) G.hx G.hb (dcs_get dec_X4_parseProduct_0 7 rfl) (by decide) (fun hc => ?_) (fun hc => ?_)
  · rw [if_pos hc] at hf
    obtain ⟨x9, h9, e9⟩ := map_some_inv hf
    subst e9
    have e8 := hr _ rfl
    rw [e8] at h9
    exact B_X4_parseProduct_67 hS  σ G hm  h9 w (lv_sub hl [] rfl)
  · rw [if_neg hc] at hf
    refine lv_aload_n G.hx G.hb (dcs_get dec_X4_parseProduct_0 8 rfl) rfl (lv_at hl 0 rfl) ?_
    obtain ⟨v15, h14, hf⟩ := cB_some hf
    refine a_i (k_V (As := []) (rest := []) cls4 lb_X4_kind lv_X4_kind q_597 (C_X4_kind G.2.2.1 a0 σ h14 ok_a0) ⟨(by dsimp only [rmK]; omega), (by dsimp only [rmK]; omega)⟩ G w k_a0.1 k_a0.2 rfl rfl hl.1 (Nat.le_of_ble_eq_true rfl) (dcs_get dec_X4_parseProduct_0 9 rfl) ⟨Nat.le_refl _, Nat.le_refl _⟩) G w (fun H locs w => ?_)
    refine lv_bipush (v := (42 : Int32)) G.hx G.hb (dcs_get dec_X4_parseProduct_0 10 rfl) (by decide) ?_
    refine lv_icmp_eq (tgt := 32) G.hx G.hb (dcs_get dec_X4_parseProduct_0 11 rfl) (by decide) (fun hc => ?_) (fun hc => ?_)
    · rw [if_pos hc] at hf
      exact B_X4_parseProduct_32 hS a0 l1 l2 σ G hm ok_a0 hf hb0 hr w (lv_sub hl [0, 1, 2] rfl)
    · rw [if_neg hc] at hf
      refine lv_aload_n G.hx G.hb (dcs_get dec_X4_parseProduct_0 12 rfl) rfl (lv_at hl 0 rfl) ?_
      obtain ⟨v17, h16, hf⟩ := cB_some hf
      refine a_i (k_V (As := []) (rest := []) cls4 lb_X4_kind lv_X4_kind q_597 (C_X4_kind G.2.2.1 a0 σ h16 ok_a0) ⟨(by dsimp only [rmK]; omega), (by dsimp only [rmK]; omega)⟩ G w k_a0.1 k_a0.2 rfl rfl hl.1 (Nat.le_of_ble_eq_true rfl) (dcs_get dec_X4_parseProduct_0 13 rfl) ⟨Nat.le_refl _, Nat.le_refl _⟩) G w (fun H locs w => ?_)
      refine lv_bipush (v := (47 : Int32)) G.hx G.hb (dcs_get dec_X4_parseProduct_0 14 rfl) (by decide) ?_
      refine lv_icmp_ne (tgt := 67) G.hx G.hb (dcs_get dec_X4_parseProduct_0 15 rfl) (by decide) (fun hc => ?_) (fun hc => ?_)
      · rw [if_neg hc] at hf
        obtain ⟨x9, h9, e9⟩ := map_some_inv hf
        subst e9
        have e8 := hr _ rfl
        rw [e8] at h9
        exact B_X4_parseProduct_67 hS  σ G hm  h9 w (lv_sub hl [] rfl)
      · rw [if_pos hc] at hf
        exact B_X4_parseProduct_32 hS a0 l1 l2 σ G hm ok_a0 hf hb0 hr w (lv_sub hl [0, 1, 2] rfl)
set_option maxRecDepth 100000 in
set_option maxHeartbeats 4000000 in
theorem H_X4_parseProduct_7 {f0 v0 : Nat} {fS : Nat → Int32 → hSt → Option hSt} (hS : ∀ (a0 : Nat) (l1 : Int32) (σ σ0 : hSt), fS a0 l1 σ = some σ0 → okr kC NC 4 a0 = true → hM l D ay kC NC ad yX4_parseSum cX4_parseSum 4 (none) (rmK f0 v0) [.ref (ad a0), .int l1] σ (cV D ay kC NC ad σ0)) {σ0 : hSt} (a0 : Nat) (l1 : Int32) (G : Gx p m c cX4_parseProduct 4 s args RX4 D ay NC ad (aN NC ad)) (hm : meth.sig.returnType = none ∧ meth.locks = false) (ok_a0 : okr kC NC 4 a0 = true)  : ∀ (k : Nat) (v : Int32 × hSt), lp (S_X4_parseProduct_7 fS a0 l1) k v = some σ0 → ∀ (H : Heap) (locs : List Loc) (ls : Array Slot), Wd D ay kC NC ad (aN NC ad) s v.2 H locs → lv_has ls 4 [(0, .ref (ad a0)), (1, .int l1), (2, .int v.1)] → W p l e (rmK (f0 + 8) (v0 + 200)) s m args below meth c H locs 0 0 (MQ below (cV D ay kC NC ad σ0) args s 0 0 (aN NC ad)) (F0 m 7 ls []) := by
  intro k
  induction k with
  | zero => intro v hf; cases hf
  | succ k ih =>
    intro v hf H locs ls w hl
    obtain ⟨o1, h1, h2, h3⟩ := lp_some hf
    exact B_X4_parseProduct_7b hS a0 l1 v.1 v.2 G hm ok_a0 h1  (fun v' e => ih v' (h2 v' e)) (fun x e => h3 x e) w hl
set_option maxRecDepth 100000 in
set_option maxHeartbeats 4000000 in
theorem B_X4_parseProduct_7 {f0 v0 : Nat} {fS : Nat → Int32 → hSt → Option hSt} (hS : ∀ (a0 : Nat) (l1 : Int32) (σ σ0 : hSt), fS a0 l1 σ = some σ0 → okr kC NC 4 a0 = true → hM l D ay kC NC ad yX4_parseSum cX4_parseSum 4 (none) (rmK f0 v0) [.ref (ad a0), .int l1] σ (cV D ay kC NC ad σ0)) {H : Heap} {locs : List Loc} {ls : Array Slot} {σ0 : hSt} (a0 : Nat) (l1 : Int32) (l2 : Int32) (σ : hSt) (G : Gx p m c cX4_parseProduct 4 s args RX4 D ay NC ad (aN NC ad)) (hm : meth.sig.returnType = none ∧ meth.locks = false) (ok_a0 : okr kC NC 4 a0 = true) (hf : F_X4_parseProduct_7 fS a0 l1 l2 σ = some σ0)  (w : Wd D ay kC NC ad (aN NC ad) s σ H locs) (hl : lv_has ls 4 [(0, .ref (ad a0)), (1, .int l1), (2, .int l2)]) : W p l e (rmK (f0 + 8) (v0 + 200)) s m args below meth c H locs 0 0 (MQ below (cV D ay kC NC ad σ0) args s 0 0 (aN NC ad)) (F0 m 7 ls []) := by
  unfold F_X4_parseProduct_7 at hf
  exact H_X4_parseProduct_7 hS a0 l1  G hm ok_a0  fuel (l2, σ) hf _ _ _ w hl
set_option maxRecDepth 100000 in
set_option maxHeartbeats 4000000 in
theorem B_X4_parseProduct_0 {f0 v0 : Nat} {fS : Nat → Int32 → hSt → Option hSt} (hS : ∀ (a0 : Nat) (l1 : Int32) (σ σ0 : hSt), fS a0 l1 σ = some σ0 → okr kC NC 4 a0 = true → hM l D ay kC NC ad yX4_parseSum cX4_parseSum 4 (none) (rmK f0 v0) [.ref (ad a0), .int l1] σ (cV D ay kC NC ad σ0)) {H : Heap} {locs : List Loc} {ls : Array Slot} {σ0 : hSt} (a0 : Nat) (l1 : Int32) (σ : hSt) (G : Gx p m c cX4_parseProduct 4 s args RX4 D ay NC ad (aN NC ad)) (hm : meth.sig.returnType = none ∧ meth.locks = false) (ok_a0 : okr kC NC 4 a0 = true) (hf : F_X4_parseProduct fS a0 l1 σ = some σ0)  (w : Wd D ay kC NC ad (aN NC ad) s σ H locs) (hl : lv_has ls 4 [(0, .ref (ad a0)), (1, .int l1)]) : W p l e (rmK (f0 + 8) (v0 + 200)) s m args below meth c H locs 0 0 (MQ below (cV D ay kC NC ad σ0) args s 0 0 (aN NC ad)) (F0 m 0 ls []) := by
  have k_a0 := okr_in ok_a0
  unfold F_X4_parseProduct at hf
  refine lv_aload_n G.hx G.hb (dcs_get dec_X4_parseProduct_0 0 rfl) rfl (lv_at hl 0 rfl) ?_
  refine lv_iload_n G.hx G.hb (dcs_get dec_X4_parseProduct_0 1 rfl) rfl (lv_at hl 1 rfl) ?_
  obtain ⟨σ19, h18, hf⟩ := cB_some hf
  refine a_v (k_V (As := [.int l1]) (rest := []) cls4 lb_X4_parseUnit lv_X4_parseUnit q_653 (C_X4_parseUnit hS G.2.2.1 a0 l1 σ h18 ok_a0) ⟨(by dsimp only [rmK]; omega), (by dsimp only [rmK]; omega)⟩ G w k_a0.1 k_a0.2 rfl rfl hl.1 (Nat.le_of_ble_eq_true rfl) (dcs_get dec_X4_parseProduct_0 2 rfl) ⟨Nat.le_refl _, Nat.le_refl _⟩) G w (fun H locs w => ?_)
  refine lv_iconst (v := (0 : Int32)) G.hx G.hb (dcs_get dec_X4_parseProduct_0 3 rfl) (by decide) ?_
  refine lv_istore_n (lv' := [(2, .int (0 : Int32)), (0, .ref (ad a0)), (1, .int l1)]) G.hx G.hb (dcs_get dec_X4_parseProduct_0 4 rfl) rfl hl (by decide) rfl (fun ls hl => ?_)
  exact B_X4_parseProduct_7 hS a0 l1 (0 : Int32) σ19 G hm ok_a0 hf  w (lv_sub hl [1, 2, 0] rfl)
end
set_option maxRecDepth 100000 in
set_option maxHeartbeats 4000000 in
theorem C_X4_parseProduct {l : Launch} {D : va_G} {ay : Nat → ClassId} {ad : Nat → Nat} {f0 v0 : Nat} {fS : Nat → Int32 → hSt → Option hSt} (hS : ∀ (a0 : Nat) (l1 : Int32) (σ σ0 : hSt), fS a0 l1 σ = some σ0 → okr kC NC 4 a0 = true → hM l D ay kC NC ad yX4_parseSum cX4_parseSum 4 (none) (rmK f0 v0) [.ref (ad a0), .int l1] σ (cV D ay kC NC ad σ0)) (hi : hInj NC ad) (a0 : Nat) (l1 : Int32) (σ : hSt) {σ0 : hSt} (hf : F_X4_parseProduct fS a0 l1 σ = some σ0) (ok_a0 : okr kC NC 4 a0 = true) : hM l D ay kC NC ad yX4_parseProduct cX4_parseProduct 4 (none) (rmK (f0 + 8) (v0 + 200)) [.ref (ad a0), .int l1] σ (cV D ay kC NC ad σ0) := by
  refine hM_in (by decide) hi (Nat.le_of_ble_eq_true rfl) ?_
  intro p e s m below meth c G hm w ls hl
  exact B_X4_parseProduct_0 hS a0 l1 σ G hm ok_a0 hf w (lv_sub hl [0, 1] rfl)

/-! HillDrums.Reader.parseSum(I)V -/
def F_X4_parseSum_32 (fS : Nat → Int32 → hSt → Option hSt) (a0 : Nat) (l1 : Int32) (l2 : Int32) (σ : hSt) : Option ((Int32 × hSt) ⊕ (hSt)) :=
(F_X4_kind a0 σ).bind fun v2 =>
cC (F_X4_take a0 v2 σ) fun v4 σ5 =>
(F_X4_parseProduct fS a0 l1 σ5).bind fun σ7 =>
cR (σ7.2.2 a0 3) (okr kC NC 7) fun z8 =>
cR (σ7.2.2 z8 5) (okr kC NC 0) fun z9 =>
cC (F_X0_add z9 (-v2) σ7) fun v11 σ12 =>
cL (l2 + (1 : Int32)) fun v13 =>
some (.inl (v13, σ12))
def F_X4_parseSum_67 (fS : Nat → Int32 → hSt → Option hSt)  (σ : hSt) : Option (hSt) :=
some (σ)
def F_X4_parseSum_7b (fS : Nat → Int32 → hSt → Option hSt) (a0 : Nat) (l1 : Int32) (l2 : Int32) (σ : hSt) : Option ((Int32 × hSt) ⊕ (hSt)) :=
if (401 : Int32) ≤ l2 then (
(F_X4_parseSum_67 fS  σ).map (fun x => .inr (x))) else (
(F_X4_kind a0 σ).bind fun v15 =>
if v15 = (43 : Int32) then (
F_X4_parseSum_32 fS a0 l1 l2 σ) else (
(F_X4_kind a0 σ).bind fun v17 =>
if v17 = (45 : Int32) then (
F_X4_parseSum_32 fS a0 l1 l2 σ) else (
(F_X4_parseSum_67 fS  σ).map (fun x => .inr (x)))))
def S_X4_parseSum_7 (fS : Nat → Int32 → hSt → Option hSt) (a0 : Nat) (l1 : Int32) (v : Int32 × hSt) : Option ((Int32 × hSt) ⊕ (hSt)) := F_X4_parseSum_7b fS a0 l1 v.1 v.2
def F_X4_parseSum_7 (fS : Nat → Int32 → hSt → Option hSt) (a0 : Nat) (l1 : Int32) (l2 : Int32) (σ : hSt) : Option (hSt) := lp (S_X4_parseSum_7 fS a0 l1) fuel (l2, σ)
def F_X4_parseSum (fS : Nat → Int32 → hSt → Option hSt) (a0 : Nat) (l1 : Int32) (σ : hSt) : Option (hSt) :=
(F_X4_parseProduct fS a0 l1 σ).bind fun σ19 =>
F_X4_parseSum_7 fS a0 l1 (0 : Int32) σ19
section
variable {p : Program} {l : Launch} {e : Env} {s : State} {m : MethodId} {args : Array Value} {below : List Frame} {meth : Method} {c : Code} {D : va_G} {ay : Nat → ClassId} {ad : Nat → Nat}
set_option maxRecDepth 100000 in
set_option maxHeartbeats 4000000 in
theorem B_X4_parseSum_32 {f0 v0 : Nat} {fS : Nat → Int32 → hSt → Option hSt} (hS : ∀ (a0 : Nat) (l1 : Int32) (σ σ0 : hSt), fS a0 l1 σ = some σ0 → okr kC NC 4 a0 = true → hM l D ay kC NC ad yX4_parseSum cX4_parseSum 4 (none) (rmK f0 v0) [.ref (ad a0), .int l1] σ (cV D ay kC NC ad σ0)) {H : Heap} {locs : List Loc} {ls : Array Slot} {σ0 : hSt} {o : (Int32 × hSt) ⊕ (hSt)} (a0 : Nat) (l1 : Int32) (l2 : Int32) (σ : hSt) (G : Gx p m c cX4_parseSum 4 s args RX4 D ay NC ad (aN NC ad)) (hm : meth.sig.returnType = none ∧ meth.locks = false) (ok_a0 : okr kC NC 4 a0 = true) (hf : F_X4_parseSum_32 fS a0 l1 l2 σ = some o) (hb0 : ∀ (v : Int32 × hSt), o = .inl v → ∀ (H : Heap) (locs : List Loc) (ls : Array Slot), Wd D ay kC NC ad (aN NC ad) s v.2 H locs → lv_has ls 4 [(0, .ref (ad a0)), (1, .int l1), (2, .int v.1)] → W p l e (rmK (f0 + 12) (v0 + 300)) s m args below meth c H locs 0 0 (MQ below (cV D ay kC NC ad σ0) args s 0 0 (aN NC ad)) (F0 m 7 ls [])) (hr : ∀ x, o = .inr (x) → x = σ0) (w : Wd D ay kC NC ad (aN NC ad) s σ H locs) (hl : lv_has ls 4 [(0, .ref (ad a0)), (1, .int l1), (2, .int l2)]) : W p l e (rmK (f0 + 12) (v0 + 300)) s m args below meth c H locs 0 0 (MQ below (cV D ay kC NC ad σ0) args s 0 0 (aN NC ad)) (F0 m 32 ls []) := by
  have k_a0 := okr_in ok_a0
  unfold F_X4_parseSum_32 at hf
  refine lv_aload_n G.hx G.hb (dcs_get dec_X4_parseSum_0 16 rfl) rfl (lv_at hl 0 rfl) ?_
  obtain ⟨v2, h1, hf⟩ := cB_some hf
  refine a_i (k_V (As := []) (rest := []) cls4 lb_X4_kind lv_X4_kind q_597 (C_X4_kind G.2.2.1 a0 σ h1 ok_a0) ⟨(by dsimp only [rmK]; omega), (by dsimp only [rmK]; omega)⟩ G w k_a0.1 k_a0.2 rfl rfl hl.1 (Nat.le_of_ble_eq_true rfl) (dcs_get dec_X4_parseSum_0 17 rfl) ⟨Nat.le_refl _, Nat.le_refl _⟩) G w (fun H locs w => ?_)
  refine lv_istore_n (lv' := [(3, .int v2), (0, .ref (ad a0)), (1, .int l1), (2, .int l2)]) G.hx G.hb (dcs_get dec_X4_parseSum_0 18 rfl) rfl hl (by decide) rfl (fun ls hl => ?_)
  refine lv_aload_n G.hx G.hb (dcs_get dec_X4_parseSum_0 19 rfl) rfl (lv_at hl 1 rfl) ?_
  refine lv_iload_n G.hx G.hb (dcs_get dec_X4_parseSum_0 20 rfl) rfl (lv_at hl 0 rfl) ?_
  obtain ⟨v4, σ5, h3, hf⟩ := cC_some hf
  refine a_l (k_V (As := [.int v2]) (rest := []) cls4 lb_X4_take lv_X4_take q_613 (C_X4_take G.2.2.1 a0 v2 σ h3 ok_a0) ⟨(by dsimp only [rmK]; omega), (by dsimp only [rmK]; omega)⟩ G w k_a0.1 k_a0.2 rfl rfl hl.1 (Nat.le_of_ble_eq_true rfl) (dcs_get dec_X4_parseSum_0 21 rfl) ⟨Nat.le_refl _, Nat.le_refl _⟩) G w (fun H locs w => ?_)
  refine lv_pop2_2 G.hx G.hb (dcs_get dec_X4_parseSum_0 22 rfl) rfl ?_
  refine lv_aload_n G.hx G.hb (dcs_get dec_X4_parseSum_0 23 rfl) rfl (lv_at hl 1 rfl) ?_
  refine lv_iload_n G.hx G.hb (dcs_get dec_X4_parseSum_0 24 rfl) rfl (lv_at hl 2 rfl) ?_
  obtain ⟨σ7, h6, hf⟩ := cB_some hf
  refine a_v (k_V (As := [.int l1]) (rest := []) cls4 lb_X4_parseProduct lv_X4_parseProduct q_649 (C_X4_parseProduct hS G.2.2.1 a0 l1 σ5 h6 ok_a0) ⟨(by dsimp only [rmK]; omega), (by dsimp only [rmK]; omega)⟩ G w k_a0.1 k_a0.2 rfl rfl hl.1 (Nat.le_of_ble_eq_true rfl) (dcs_get dec_X4_parseSum_0 25 rfl) ⟨Nat.le_refl _, Nat.le_refl _⟩) G w (fun H locs w => ?_)
  refine lv_aload_n G.hx G.hb (dcs_get dec_X4_parseSum_0 26 rfl) rfl (lv_at hl 1 rfl) ?_
  obtain ⟨z8, e_z8, ok_z8, hf⟩ := cR_some hf
  have k_z8 := okr_in ok_z8
  refine r_getr (k := 3) cls4 fi_4_3.1 fi_4_3.2 q_200 G w k_a0.1 k_a0.2 e_z8 (dcs_get dec_X4_parseSum_0 27 rfl) ?_
  obtain ⟨z9, e_z9, ok_z9, hf⟩ := cR_some hf
  have k_z9 := okr_in ok_z9
  refine r_getrN (k := 5) cls7 fi_7_5.1 fi_7_5.2 nf_110 G w k_z8.1 k_z8.2 e_z9 (dcs_get dec_X4_parseSum_0 28 rfl) ?_
  refine lv_iload_n G.hx G.hb (dcs_get dec_X4_parseSum_0 29 rfl) rfl (lv_at hl 0 rfl) ?_
  refine lv_ineg G.hx G.hb (dcs_get dec_X4_parseSum_0 30 rfl) ?_
  obtain ⟨v11, σ12, h10, hf⟩ := cC_some hf
  refine a_i (k_VN (As := [.int (-v2)]) (rest := []) cls0 lb_X0_add lv_X0_add nm_657 (C_X0_add G.2.2.1 z9 (-v2) σ7 h10 ok_z9) ⟨(by dsimp only [rmK]; omega), (by dsimp only [rmK]; omega)⟩ G w k_z9.1 k_z9.2 rfl rfl hl.1 (Nat.le_of_ble_eq_true rfl) (dcs_get dec_X4_parseSum_0 31 rfl) ⟨Nat.le_refl _, Nat.le_refl _⟩) G w (fun H locs w => ?_)
  refine lv_pop G.hx G.hb (dcs_get dec_X4_parseSum_0 32 rfl) rfl ?_
  obtain ⟨v13, e_v13, hf⟩ := cL_some hf
  refine lv_iinc (v := v13) (lv' := [(2, .int v13), (3, .int v2), (0, .ref (ad a0)), (1, .int l1)]) G.hx G.hb (dcs_get dec_X4_parseSum_0 33 rfl) hl (k := 3) rfl (by rw [e_v13]; rfl) (by decide) rfl (fun ls hl => ?_)
  refine lv_goto (tgt := 7) G.hx G.hb (dcs_get dec_X4_parseSum_0 34 rfl) (by decide) ?_
  exact hb0 _ (Option.some.inj hf).symm _ _ _ w (lv_sub hl [2, 3, 0] rfl)
set_option maxRecDepth 100000 in
set_option maxHeartbeats 4000000 in
theorem B_X4_parseSum_67 {f0 v0 : Nat} {fS : Nat → Int32 → hSt → Option hSt} (hS : ∀ (a0 : Nat) (l1 : Int32) (σ σ0 : hSt), fS a0 l1 σ = some σ0 → okr kC NC 4 a0 = true → hM l D ay kC NC ad yX4_parseSum cX4_parseSum 4 (none) (rmK f0 v0) [.ref (ad a0), .int l1] σ (cV D ay kC NC ad σ0)) {H : Heap} {locs : List Loc} {ls : Array Slot} {σ0 : hSt}  (σ : hSt) (G : Gx p m c cX4_parseSum 4 s args RX4 D ay NC ad (aN NC ad)) (hm : meth.sig.returnType = none ∧ meth.locks = false)  (hf : F_X4_parseSum_67 fS  σ = some σ0)  (w : Wd D ay kC NC ad (aN NC ad) s σ H locs) (hl : lv_has ls 4 []) : W p l e (rmK (f0 + 12) (v0 + 300)) s m args below meth c H locs 0 0 (MQ below (cV D ay kC NC ad σ0) args s 0 0 (aN NC ad)) (F0 m 67 ls []) := by
  unfold F_X4_parseSum_67 at hf
  have e9 := Option.some.inj hf
  exact r_vret G w hm e9 (dcs_get dec_X4_parseSum_0 35 rfl)
set_option maxRecDepth 100000 in
set_option maxHeartbeats 4000000 in
theorem B_X4_parseSum_7b {f0 v0 : Nat} {fS : Nat → Int32 → hSt → Option hSt} (hS : ∀ (a0 : Nat) (l1 : Int32) (σ σ0 : hSt), fS a0 l1 σ = some σ0 → okr kC NC 4 a0 = true → hM l D ay kC NC ad yX4_parseSum cX4_parseSum 4 (none) (rmK f0 v0) [.ref (ad a0), .int l1] σ (cV D ay kC NC ad σ0)) {H : Heap} {locs : List Loc} {ls : Array Slot} {σ0 : hSt} {o : (Int32 × hSt) ⊕ (hSt)} (a0 : Nat) (l1 : Int32) (l2 : Int32) (σ : hSt) (G : Gx p m c cX4_parseSum 4 s args RX4 D ay NC ad (aN NC ad)) (hm : meth.sig.returnType = none ∧ meth.locks = false) (ok_a0 : okr kC NC 4 a0 = true) (hf : F_X4_parseSum_7b fS a0 l1 l2 σ = some o) (hb0 : ∀ (v : Int32 × hSt), o = .inl v → ∀ (H : Heap) (locs : List Loc) (ls : Array Slot), Wd D ay kC NC ad (aN NC ad) s v.2 H locs → lv_has ls 4 [(0, .ref (ad a0)), (1, .int l1), (2, .int v.1)] → W p l e (rmK (f0 + 12) (v0 + 300)) s m args below meth c H locs 0 0 (MQ below (cV D ay kC NC ad σ0) args s 0 0 (aN NC ad)) (F0 m 7 ls [])) (hr : ∀ x, o = .inr (x) → x = σ0) (w : Wd D ay kC NC ad (aN NC ad) s σ H locs) (hl : lv_has ls 4 [(0, .ref (ad a0)), (1, .int l1), (2, .int l2)]) : W p l e (rmK (f0 + 12) (v0 + 300)) s m args below meth c H locs 0 0 (MQ below (cV D ay kC NC ad σ0) args s 0 0 (aN NC ad)) (F0 m 7 ls []) := by
  have k_a0 := okr_in ok_a0
  unfold F_X4_parseSum_7b at hf
  refine lv_iload_n G.hx G.hb (dcs_get dec_X4_parseSum_0 5 rfl) rfl (lv_at hl 2 rfl) ?_
  refine lv_sipush (v := (401 : Int32)) G.hx G.hb (dcs_get dec_X4_parseSum_0 6 rfl) (by decide) ?_
  refine lv_icmp_ge (tgt := 67) G.hx G.hb (dcs_get dec_X4_parseSum_0 7 rfl) (by decide) (fun hc => ?_) (fun hc => ?_)
  · rw [if_pos hc] at hf
    obtain ⟨x9, h9, e9⟩ := map_some_inv hf
    subst e9
    have e8 := hr _ rfl
    rw [e8] at h9
    exact B_X4_parseSum_67 hS  σ G hm  h9 w (lv_sub hl [] rfl)
  · rw [if_neg hc] at hf
    refine lv_aload_n G.hx G.hb (dcs_get dec_X4_parseSum_0 8 rfl) rfl (lv_at hl 0 rfl) ?_
    obtain ⟨v15, h14, hf⟩ := cB_some hf
    refine a_i (k_V (As := []) (rest := []) cls4 lb_X4_kind lv_X4_kind q_597 (C_X4_kind G.2.2.1 a0 σ h14 ok_a0) ⟨(by dsimp only [rmK]; omega), (by dsimp only [rmK]; omega)⟩ G w k_a0.1 k_a0.2 rfl rfl hl.1 (Nat.le_of_ble_eq_true rfl) (dcs_get dec_X4_parseSum_0 9 rfl) ⟨Nat.le_refl _, Nat.le_refl _⟩) G w (fun H locs w => ?_)
    refine lv_bipush (v := (43 : Int32)) G.hx G.hb (dcs_get dec_X4_parseSum_0 10 rfl) (by decide) ?_
    refine lv_icmp_eq (tgt := 32) G.hx G.hb (dcs_get dec_X4_parseSum_0 11 rfl) (by decide) (fun hc => ?_) (fun hc => ?_)
    · rw [if_pos hc] at hf
      exact B_X4_parseSum_32 hS a0 l1 l2 σ G hm ok_a0 hf hb0 hr w (lv_sub hl [0, 1, 2] rfl)
    · rw [if_neg hc] at hf
      refine lv_aload_n G.hx G.hb (dcs_get dec_X4_parseSum_0 12 rfl) rfl (lv_at hl 0 rfl) ?_
      obtain ⟨v17, h16, hf⟩ := cB_some hf
      refine a_i (k_V (As := []) (rest := []) cls4 lb_X4_kind lv_X4_kind q_597 (C_X4_kind G.2.2.1 a0 σ h16 ok_a0) ⟨(by dsimp only [rmK]; omega), (by dsimp only [rmK]; omega)⟩ G w k_a0.1 k_a0.2 rfl rfl hl.1 (Nat.le_of_ble_eq_true rfl) (dcs_get dec_X4_parseSum_0 13 rfl) ⟨Nat.le_refl _, Nat.le_refl _⟩) G w (fun H locs w => ?_)
      refine lv_bipush (v := (45 : Int32)) G.hx G.hb (dcs_get dec_X4_parseSum_0 14 rfl) (by decide) ?_
      refine lv_icmp_ne (tgt := 67) G.hx G.hb (dcs_get dec_X4_parseSum_0 15 rfl) (by decide) (fun hc => ?_) (fun hc => ?_)
      · rw [if_neg hc] at hf
        obtain ⟨x9, h9, e9⟩ := map_some_inv hf
        subst e9
        have e8 := hr _ rfl
        rw [e8] at h9
        exact B_X4_parseSum_67 hS  σ G hm  h9 w (lv_sub hl [] rfl)
      · rw [if_pos hc] at hf
        exact B_X4_parseSum_32 hS a0 l1 l2 σ G hm ok_a0 hf hb0 hr w (lv_sub hl [0, 1, 2] rfl)
set_option maxRecDepth 100000 in
set_option maxHeartbeats 4000000 in
theorem H_X4_parseSum_7 {f0 v0 : Nat} {fS : Nat → Int32 → hSt → Option hSt} (hS : ∀ (a0 : Nat) (l1 : Int32) (σ σ0 : hSt), fS a0 l1 σ = some σ0 → okr kC NC 4 a0 = true → hM l D ay kC NC ad yX4_parseSum cX4_parseSum 4 (none) (rmK f0 v0) [.ref (ad a0), .int l1] σ (cV D ay kC NC ad σ0)) {σ0 : hSt} (a0 : Nat) (l1 : Int32) (G : Gx p m c cX4_parseSum 4 s args RX4 D ay NC ad (aN NC ad)) (hm : meth.sig.returnType = none ∧ meth.locks = false) (ok_a0 : okr kC NC 4 a0 = true)  : ∀ (k : Nat) (v : Int32 × hSt), lp (S_X4_parseSum_7 fS a0 l1) k v = some σ0 → ∀ (H : Heap) (locs : List Loc) (ls : Array Slot), Wd D ay kC NC ad (aN NC ad) s v.2 H locs → lv_has ls 4 [(0, .ref (ad a0)), (1, .int l1), (2, .int v.1)] → W p l e (rmK (f0 + 12) (v0 + 300)) s m args below meth c H locs 0 0 (MQ below (cV D ay kC NC ad σ0) args s 0 0 (aN NC ad)) (F0 m 7 ls []) := by
  intro k
  induction k with
  | zero => intro v hf; cases hf
  | succ k ih =>
    intro v hf H locs ls w hl
    obtain ⟨o1, h1, h2, h3⟩ := lp_some hf
    exact B_X4_parseSum_7b hS a0 l1 v.1 v.2 G hm ok_a0 h1  (fun v' e => ih v' (h2 v' e)) (fun x e => h3 x e) w hl
set_option maxRecDepth 100000 in
set_option maxHeartbeats 4000000 in
theorem B_X4_parseSum_7 {f0 v0 : Nat} {fS : Nat → Int32 → hSt → Option hSt} (hS : ∀ (a0 : Nat) (l1 : Int32) (σ σ0 : hSt), fS a0 l1 σ = some σ0 → okr kC NC 4 a0 = true → hM l D ay kC NC ad yX4_parseSum cX4_parseSum 4 (none) (rmK f0 v0) [.ref (ad a0), .int l1] σ (cV D ay kC NC ad σ0)) {H : Heap} {locs : List Loc} {ls : Array Slot} {σ0 : hSt} (a0 : Nat) (l1 : Int32) (l2 : Int32) (σ : hSt) (G : Gx p m c cX4_parseSum 4 s args RX4 D ay NC ad (aN NC ad)) (hm : meth.sig.returnType = none ∧ meth.locks = false) (ok_a0 : okr kC NC 4 a0 = true) (hf : F_X4_parseSum_7 fS a0 l1 l2 σ = some σ0)  (w : Wd D ay kC NC ad (aN NC ad) s σ H locs) (hl : lv_has ls 4 [(0, .ref (ad a0)), (1, .int l1), (2, .int l2)]) : W p l e (rmK (f0 + 12) (v0 + 300)) s m args below meth c H locs 0 0 (MQ below (cV D ay kC NC ad σ0) args s 0 0 (aN NC ad)) (F0 m 7 ls []) := by
  unfold F_X4_parseSum_7 at hf
  exact H_X4_parseSum_7 hS a0 l1  G hm ok_a0  fuel (l2, σ) hf _ _ _ w hl
set_option maxRecDepth 100000 in
set_option maxHeartbeats 4000000 in
theorem B_X4_parseSum_0 {f0 v0 : Nat} {fS : Nat → Int32 → hSt → Option hSt} (hS : ∀ (a0 : Nat) (l1 : Int32) (σ σ0 : hSt), fS a0 l1 σ = some σ0 → okr kC NC 4 a0 = true → hM l D ay kC NC ad yX4_parseSum cX4_parseSum 4 (none) (rmK f0 v0) [.ref (ad a0), .int l1] σ (cV D ay kC NC ad σ0)) {H : Heap} {locs : List Loc} {ls : Array Slot} {σ0 : hSt} (a0 : Nat) (l1 : Int32) (σ : hSt) (G : Gx p m c cX4_parseSum 4 s args RX4 D ay NC ad (aN NC ad)) (hm : meth.sig.returnType = none ∧ meth.locks = false) (ok_a0 : okr kC NC 4 a0 = true) (hf : F_X4_parseSum fS a0 l1 σ = some σ0)  (w : Wd D ay kC NC ad (aN NC ad) s σ H locs) (hl : lv_has ls 4 [(0, .ref (ad a0)), (1, .int l1)]) : W p l e (rmK (f0 + 12) (v0 + 300)) s m args below meth c H locs 0 0 (MQ below (cV D ay kC NC ad σ0) args s 0 0 (aN NC ad)) (F0 m 0 ls []) := by
  have k_a0 := okr_in ok_a0
  unfold F_X4_parseSum at hf
  refine lv_aload_n G.hx G.hb (dcs_get dec_X4_parseSum_0 0 rfl) rfl (lv_at hl 0 rfl) ?_
  refine lv_iload_n G.hx G.hb (dcs_get dec_X4_parseSum_0 1 rfl) rfl (lv_at hl 1 rfl) ?_
  obtain ⟨σ19, h18, hf⟩ := cB_some hf
  refine a_v (k_V (As := [.int l1]) (rest := []) cls4 lb_X4_parseProduct lv_X4_parseProduct q_649 (C_X4_parseProduct hS G.2.2.1 a0 l1 σ h18 ok_a0) ⟨(by dsimp only [rmK]; omega), (by dsimp only [rmK]; omega)⟩ G w k_a0.1 k_a0.2 rfl rfl hl.1 (Nat.le_of_ble_eq_true rfl) (dcs_get dec_X4_parseSum_0 2 rfl) ⟨Nat.le_refl _, Nat.le_refl _⟩) G w (fun H locs w => ?_)
  refine lv_iconst (v := (0 : Int32)) G.hx G.hb (dcs_get dec_X4_parseSum_0 3 rfl) (by decide) ?_
  refine lv_istore_n (lv' := [(2, .int (0 : Int32)), (0, .ref (ad a0)), (1, .int l1)]) G.hx G.hb (dcs_get dec_X4_parseSum_0 4 rfl) rfl hl (by decide) rfl (fun ls hl => ?_)
  exact B_X4_parseSum_7 hS a0 l1 (0 : Int32) σ19 G hm ok_a0 hf  w (lv_sub hl [1, 2, 0] rfl)
end
set_option maxRecDepth 100000 in
set_option maxHeartbeats 4000000 in
theorem C_X4_parseSum {l : Launch} {D : va_G} {ay : Nat → ClassId} {ad : Nat → Nat} {f0 v0 : Nat} {fS : Nat → Int32 → hSt → Option hSt} (hS : ∀ (a0 : Nat) (l1 : Int32) (σ σ0 : hSt), fS a0 l1 σ = some σ0 → okr kC NC 4 a0 = true → hM l D ay kC NC ad yX4_parseSum cX4_parseSum 4 (none) (rmK f0 v0) [.ref (ad a0), .int l1] σ (cV D ay kC NC ad σ0)) (hi : hInj NC ad) (a0 : Nat) (l1 : Int32) (σ : hSt) {σ0 : hSt} (hf : F_X4_parseSum fS a0 l1 σ = some σ0) (ok_a0 : okr kC NC 4 a0 = true) : hM l D ay kC NC ad yX4_parseSum cX4_parseSum 4 (none) (rmK (f0 + 12) (v0 + 300)) [.ref (ad a0), .int l1] σ (cV D ay kC NC ad σ0) := by
  refine hM_in (by decide) hi (Nat.le_of_ble_eq_true rfl) ?_
  intro p e s m below meth c G hm w ls hl
  exact B_X4_parseSum_0 hS a0 l1 σ G hm ok_a0 hf w (lv_sub hl [0, 1] rfl)

/-- parseSum, to a depth -/
def FS : Nat → Nat → Int32 → hSt → Option hSt
  | 0 => fun _ _ _ => none
  | d + 1 => fun a0 l1 σ => F_X4_parseSum (FS d) a0 l1 σ
theorem CS {l : Launch} {D : va_G} {ay : Nat → ClassId} {ad : Nat → Nat} (hi : hInj NC ad) : ∀ (d : Nat) (a0 : Nat) (l1 : Int32) (σ : hSt) {σ0 : hSt} (_ : FS d a0 l1 σ = some σ0) (_ : okr kC NC 4 a0 = true), hM l D ay kC NC ad yX4_parseSum cX4_parseSum 4 none (rmK (12 * d) (300 * d)) [.ref (ad a0), .int l1] σ (cV D ay kC NC ad σ0)
  | 0, _, _, _, _, hf, _ => by cases hf
  | d + 1, a0, l1, σ, σ0, hf, ok => C_X4_parseSum (fun a l σ σ0 h ok => CS hi d a l σ h ok) hi a0 l1 σ hf ok

/-! HillDrums.Reader.parseLaw()V -/
def DL_X4_parseLaw_0 : List (Nat × Instr × Nat) := [(0, .aload_n 0, 1), (1, .sipush 131, 3), (4, .invokevirtual 71, 3), (7, .pop2, 1), (8, .aload_n 0, 1), (9, .bipush 61, 2), (11, .invokevirtual 71, 3), (14, .pop2, 1), (15, .aload_n 0, 1), (16, .getfield 41, 3), (19, .getfield 168, 3), (22, .iconst 0, 1), (23, .putfield 172, 3), (26, .iconst 0, 1), (27, .istore_n 1, 1), (28, .iload_n 1, 1), (29, .iconst 4, 1), (30, .if_icmp .gt 124, 3), (33, .aload_n 0, 1), (34, .invokevirtual 54, 3), (37, .sipush 132, 3), (40, .if_icmp .ne 114, 3), (43, .iload_n 1, 1), (44, .iconst 4, 1), (45, .if_icmp .ne 8, 3), (48, .aload_n 0, 1), (49, .iconst 2, 1), (50, .invokevirtual 121, 3), (53, .aload_n 0, 1), (54, .sipush 132, 3), (57, .invokevirtual 71, 3), (60, .pop2, 1), (61, .aload_n 0, 1), (62, .iconst 0, 1), (63, .invokevirtual 177, 3), (66, .aload_n 0, 1), (67, .bipush 60, 2), (69, .invokevirtual 71, 3), (72, .pop2, 1), (73, .aload_n 0, 1)]
set_option maxRecDepth 100000 in
theorem dec_X4_parseLaw_0 : dcs cX4_parseLaw DL_X4_parseLaw_0 = true := by decide +kernel
def DL_X4_parseLaw_1 : List (Nat × Instr × Nat) := [(74, .iconst 0, 1), (75, .invokevirtual 177, 3), (78, .aload_n 0, 1), (79, .getfield 41, 3), (82, .getfield 168, 3), (85, .bipush (-60), 2), (87, .invokevirtual 180, 3), (90, .pop, 1), (91, .aload_n 0, 1), (92, .getfield 41, 3), (95, .getfield 168, 3), (98, .iconst 0, 1), (99, .invokevirtual 180, 3), (102, .istore_n 2, 1), (103, .aload_n 0, 1), (104, .sipush 133, 3), (107, .invokevirtual 71, 3), (110, .pop2, 1), (111, .aload_n 0, 1), (112, .iconst 0, 1), (113, .invokevirtual 177, 3), (116, .aload_n 0, 1), (117, .sipush 134, 3), (120, .invokevirtual 71, 3), (123, .pop2, 1), (124, .aload_n 0, 1), (125, .getfield 41, 3), (128, .getfield 168, 3), (131, .bipush (-59), 2), (133, .invokevirtual 180, 3), (136, .pop, 1), (137, .aload_n 0, 1), (138, .getfield 41, 3), (141, .getfield 168, 3), (144, .iload_n 2, 1), (145, .invokevirtual 184, 3), (148, .iinc 1 1, 3), (151, .goto (-123), 3), (154, .aload_n 0, 1), (155, .iconst 0, 1)]
set_option maxRecDepth 100000 in
theorem dec_X4_parseLaw_1 : dcs cX4_parseLaw DL_X4_parseLaw_1 = true := by decide +kernel
def DL_X4_parseLaw_2 : List (Nat × Instr × Nat) := [(156, .invokevirtual 177, 3), (159, .aload_n 0, 1), (160, .getfield 41, 3), (163, .getfield 168, 3), (166, .bipush (-59), 2), (168, .invokevirtual 180, 3), (171, .pop, 1), (172, .return_, 1)]
set_option maxRecDepth 100000 in
theorem dec_X4_parseLaw_2 : dcs cX4_parseLaw DL_X4_parseLaw_2 = true := by decide +kernel
theorem lb_X4_parseLaw : lkB yX4_parseLaw cX4_parseLaw 3 (none) 0 := ⟨q_644, q_6, ⟨by decide, by decide⟩, by decide +kernel⟩
theorem lv_X4_parseLaw : lkV yX4_parseLaw := ⟨q_643, qs_22⟩
def F_X4_parseLaw_53 (a0 : Nat) (l1 : Int32) (σ : hSt) : Option ((Int32 × hSt) ⊕ (hSt)) :=
cC (F_X4_take a0 (132 : Int32) σ) fun v2 σ3 =>
(FS 8 a0 (0 : Int32) σ3).bind fun σ5 =>
cC (F_X4_take a0 (60 : Int32) σ5) fun v7 σ8 =>
(FS 8 a0 (0 : Int32) σ8).bind fun σ10 =>
cR (σ10.2.2 a0 3) (okr kC NC 7) fun z11 =>
cR (σ10.2.2 z11 5) (okr kC NC 0) fun z12 =>
cC (F_X0_add z12 (-60 : Int32) σ10) fun v14 σ15 =>
cR (σ15.2.2 a0 3) (okr kC NC 7) fun z16 =>
cR (σ15.2.2 z16 5) (okr kC NC 0) fun z17 =>
cC (F_X0_add z17 (0 : Int32) σ15) fun v19 σ20 =>
cC (F_X4_take a0 (133 : Int32) σ20) fun v22 σ23 =>
(FS 8 a0 (0 : Int32) σ23).bind fun σ25 =>
cC (F_X4_take a0 (134 : Int32) σ25) fun v27 σ28 =>
cR (σ28.2.2 a0 3) (okr kC NC 7) fun z29 =>
cR (σ28.2.2 z29 5) (okr kC NC 0) fun z30 =>
cC (F_X0_add z30 (-59 : Int32) σ28) fun v32 σ33 =>
cR (σ33.2.2 a0 3) (okr kC NC 7) fun z34 =>
cR (σ33.2.2 z34 5) (okr kC NC 0) fun z35 =>
(F_X0_aimHere z35 v19 σ33).bind fun σ37 =>
cL (l1 + (1 : Int32)) fun v38 =>
some (.inl (v38, σ37))
def F_X4_parseLaw_154 (a0 : Nat) (σ : hSt) : Option (hSt) :=
(FS 8 a0 (0 : Int32) σ).bind fun σ40 =>
cR (σ40.2.2 a0 3) (okr kC NC 7) fun z41 =>
cR (σ40.2.2 z41 5) (okr kC NC 0) fun z42 =>
cC (F_X0_add z42 (-59 : Int32) σ40) fun v44 σ45 =>
some (σ45)
def F_X4_parseLaw_28b (a0 : Nat) (l1 : Int32) (σ : hSt) : Option ((Int32 × hSt) ⊕ (hSt)) :=
if (4 : Int32) < l1 then (
(F_X4_parseLaw_154 a0 σ).map (fun x => .inr (x))) else (
(F_X4_kind a0 σ).bind fun v47 =>
if v47 = (132 : Int32) then (
if l1 = (4 : Int32) then (
(F_X4_fail a0 (2 : Int32) σ).bind fun σ49 =>
F_X4_parseLaw_53 a0 l1 σ49) else (
F_X4_parseLaw_53 a0 l1 σ)) else (
(F_X4_parseLaw_154 a0 σ).map (fun x => .inr (x))))
def S_X4_parseLaw_28 (a0 : Nat) (v : Int32 × hSt) : Option ((Int32 × hSt) ⊕ (hSt)) := F_X4_parseLaw_28b a0 v.1 v.2
def F_X4_parseLaw_28 (a0 : Nat) (l1 : Int32) (σ : hSt) : Option (hSt) := lp (S_X4_parseLaw_28 a0) fuel (l1, σ)
def F_X4_parseLaw (a0 : Nat) (σ : hSt) : Option (hSt) :=
cC (F_X4_take a0 (131 : Int32) σ) fun v51 σ52 =>
cC (F_X4_take a0 (61 : Int32) σ52) fun v54 σ55 =>
cR (σ55.2.2 a0 3) (okr kC NC 7) fun z56 =>
cR (σ55.2.2 z56 5) (okr kC NC 0) fun z57 =>
cL (uI σ55 z57 2 (0 : Int32)) fun σ58 =>
F_X4_parseLaw_28 a0 (0 : Int32) σ58
section
variable {p : Program} {l : Launch} {e : Env} {s : State} {m : MethodId} {args : Array Value} {below : List Frame} {meth : Method} {c : Code} {D : va_G} {ay : Nat → ClassId} {ad : Nat → Nat}
set_option maxRecDepth 100000 in
set_option maxHeartbeats 4000000 in
theorem B_X4_parseLaw_53 {H : Heap} {locs : List Loc} {ls : Array Slot} {σ0 : hSt} {o : (Int32 × hSt) ⊕ (hSt)} (a0 : Nat) (l1 : Int32) (σ : hSt) (G : Gx p m c cX4_parseLaw 3 s args RX4 D ay NC ad (aN NC ad)) (hm : meth.sig.returnType = none ∧ meth.locks = false) (ok_a0 : okr kC NC 4 a0 = true) (hf : F_X4_parseLaw_53 a0 l1 σ = some o) (hb0 : ∀ (v : Int32 × hSt), o = .inl v → ∀ (H : Heap) (locs : List Loc) (ls : Array Slot), Wd D ay kC NC ad (aN NC ad) s v.2 H locs → lv_has ls 3 [(0, .ref (ad a0)), (1, .int v.1)] → W p l e (rmK 97 2423) s m args below meth c H locs 0 0 (MQ below (cV D ay kC NC ad σ0) args s 0 0 (aN NC ad)) (F0 m 28 ls [])) (hr : ∀ x, o = .inr (x) → x = σ0) (w : Wd D ay kC NC ad (aN NC ad) s σ H locs) (hl : lv_has ls 3 [(0, .ref (ad a0)), (1, .int l1)]) : W p l e (rmK 97 2423) s m args below meth c H locs 0 0 (MQ below (cV D ay kC NC ad σ0) args s 0 0 (aN NC ad)) (F0 m 53 ls []) := by
  have k_a0 := okr_in ok_a0
  unfold F_X4_parseLaw_53 at hf
  refine lv_aload_n G.hx G.hb (dcs_get dec_X4_parseLaw_0 28 rfl) rfl (lv_at hl 0 rfl) ?_
  refine lv_sipush (v := (132 : Int32)) G.hx G.hb (dcs_get dec_X4_parseLaw_0 29 rfl) (by decide) ?_
  obtain ⟨v2, σ3, h1, hf⟩ := cC_some hf
  refine a_l (k_V (As := [.int (132 : Int32)]) (rest := []) cls4 lb_X4_take lv_X4_take q_613 (C_X4_take G.2.2.1 a0 (132 : Int32) σ h1 ok_a0) ⟨(Nat.le_of_ble_eq_true rfl), (Nat.le_of_ble_eq_true rfl)⟩ G w k_a0.1 k_a0.2 rfl rfl hl.1 (Nat.le_of_ble_eq_true rfl) (dcs_get dec_X4_parseLaw_0 30 rfl) ⟨Nat.le_refl _, Nat.le_refl _⟩) G w (fun H locs w => ?_)
  refine lv_pop2_2 G.hx G.hb (dcs_get dec_X4_parseLaw_0 31 rfl) rfl ?_
  refine lv_aload_n G.hx G.hb (dcs_get dec_X4_parseLaw_0 32 rfl) rfl (lv_at hl 0 rfl) ?_
  refine lv_iconst (v := (0 : Int32)) G.hx G.hb (dcs_get dec_X4_parseLaw_0 33 rfl) (by decide) ?_
  obtain ⟨σ5, h4, hf⟩ := cB_some hf
  refine a_v (k_V (As := [.int (0 : Int32)]) (rest := []) cls4 lb_X4_parseSum lv_X4_parseSum q_645 (CS G.2.2.1 8 a0 (0 : Int32) σ3 h4 ok_a0) ⟨(Nat.le_of_ble_eq_true rfl), (Nat.le_of_ble_eq_true rfl)⟩ G w k_a0.1 k_a0.2 rfl rfl hl.1 (Nat.le_of_ble_eq_true rfl) (dcs_get dec_X4_parseLaw_0 34 rfl) ⟨Nat.le_refl _, Nat.le_refl _⟩) G w (fun H locs w => ?_)
  refine lv_aload_n G.hx G.hb (dcs_get dec_X4_parseLaw_0 35 rfl) rfl (lv_at hl 0 rfl) ?_
  refine lv_bipush (v := (60 : Int32)) G.hx G.hb (dcs_get dec_X4_parseLaw_0 36 rfl) (by decide) ?_
  obtain ⟨v7, σ8, h6, hf⟩ := cC_some hf
  refine a_l (k_V (As := [.int (60 : Int32)]) (rest := []) cls4 lb_X4_take lv_X4_take q_613 (C_X4_take G.2.2.1 a0 (60 : Int32) σ5 h6 ok_a0) ⟨(Nat.le_of_ble_eq_true rfl), (Nat.le_of_ble_eq_true rfl)⟩ G w k_a0.1 k_a0.2 rfl rfl hl.1 (Nat.le_of_ble_eq_true rfl) (dcs_get dec_X4_parseLaw_0 37 rfl) ⟨Nat.le_refl _, Nat.le_refl _⟩) G w (fun H locs w => ?_)
  refine lv_pop2_2 G.hx G.hb (dcs_get dec_X4_parseLaw_0 38 rfl) rfl ?_
  refine lv_aload_n G.hx G.hb (dcs_get dec_X4_parseLaw_0 39 rfl) rfl (lv_at hl 0 rfl) ?_
  refine lv_iconst (v := (0 : Int32)) G.hx G.hb (dcs_get dec_X4_parseLaw_1 0 rfl) (by decide) ?_
  obtain ⟨σ10, h9, hf⟩ := cB_some hf
  refine a_v (k_V (As := [.int (0 : Int32)]) (rest := []) cls4 lb_X4_parseSum lv_X4_parseSum q_645 (CS G.2.2.1 8 a0 (0 : Int32) σ8 h9 ok_a0) ⟨(Nat.le_of_ble_eq_true rfl), (Nat.le_of_ble_eq_true rfl)⟩ G w k_a0.1 k_a0.2 rfl rfl hl.1 (Nat.le_of_ble_eq_true rfl) (dcs_get dec_X4_parseLaw_1 1 rfl) ⟨Nat.le_refl _, Nat.le_refl _⟩) G w (fun H locs w => ?_)
  refine lv_aload_n G.hx G.hb (dcs_get dec_X4_parseLaw_1 2 rfl) rfl (lv_at hl 0 rfl) ?_
  obtain ⟨z11, e_z11, ok_z11, hf⟩ := cR_some hf
  have k_z11 := okr_in ok_z11
  refine r_getr (k := 3) cls4 fi_4_3.1 fi_4_3.2 q_200 G w k_a0.1 k_a0.2 e_z11 (dcs_get dec_X4_parseLaw_1 3 rfl) ?_
  obtain ⟨z12, e_z12, ok_z12, hf⟩ := cR_some hf
  have k_z12 := okr_in ok_z12
  refine r_getrN (k := 5) cls7 fi_7_5.1 fi_7_5.2 nf_110 G w k_z11.1 k_z11.2 e_z12 (dcs_get dec_X4_parseLaw_1 4 rfl) ?_
  refine lv_bipush (v := (-60 : Int32)) G.hx G.hb (dcs_get dec_X4_parseLaw_1 5 rfl) (by decide) ?_
  obtain ⟨v14, σ15, h13, hf⟩ := cC_some hf
  refine a_i (k_VN (As := [.int (-60 : Int32)]) (rest := []) cls0 lb_X0_add lv_X0_add nm_657 (C_X0_add G.2.2.1 z12 (-60 : Int32) σ10 h13 ok_z12) ⟨(Nat.le_of_ble_eq_true rfl), (Nat.le_of_ble_eq_true rfl)⟩ G w k_z12.1 k_z12.2 rfl rfl hl.1 (Nat.le_of_ble_eq_true rfl) (dcs_get dec_X4_parseLaw_1 6 rfl) ⟨Nat.le_refl _, Nat.le_refl _⟩) G w (fun H locs w => ?_)
  refine lv_pop G.hx G.hb (dcs_get dec_X4_parseLaw_1 7 rfl) rfl ?_
  refine lv_aload_n G.hx G.hb (dcs_get dec_X4_parseLaw_1 8 rfl) rfl (lv_at hl 0 rfl) ?_
  obtain ⟨z16, e_z16, ok_z16, hf⟩ := cR_some hf
  have k_z16 := okr_in ok_z16
  refine r_getr (k := 3) cls4 fi_4_3.1 fi_4_3.2 q_200 G w k_a0.1 k_a0.2 e_z16 (dcs_get dec_X4_parseLaw_1 9 rfl) ?_
  obtain ⟨z17, e_z17, ok_z17, hf⟩ := cR_some hf
  have k_z17 := okr_in ok_z17
  refine r_getrN (k := 5) cls7 fi_7_5.1 fi_7_5.2 nf_110 G w k_z16.1 k_z16.2 e_z17 (dcs_get dec_X4_parseLaw_1 10 rfl) ?_
  refine lv_iconst (v := (0 : Int32)) G.hx G.hb (dcs_get dec_X4_parseLaw_1 11 rfl) (by decide) ?_
  obtain ⟨v19, σ20, h18, hf⟩ := cC_some hf
  refine a_i (k_VN (As := [.int (0 : Int32)]) (rest := []) cls0 lb_X0_add lv_X0_add nm_657 (C_X0_add G.2.2.1 z17 (0 : Int32) σ15 h18 ok_z17) ⟨(Nat.le_of_ble_eq_true rfl), (Nat.le_of_ble_eq_true rfl)⟩ G w k_z17.1 k_z17.2 rfl rfl hl.1 (Nat.le_of_ble_eq_true rfl) (dcs_get dec_X4_parseLaw_1 12 rfl) ⟨Nat.le_refl _, Nat.le_refl _⟩) G w (fun H locs w => ?_)
  refine lv_istore_n (lv' := [(2, .int v19), (0, .ref (ad a0)), (1, .int l1)]) G.hx G.hb (dcs_get dec_X4_parseLaw_1 13 rfl) rfl hl (by decide) rfl (fun ls hl => ?_)
  refine lv_aload_n G.hx G.hb (dcs_get dec_X4_parseLaw_1 14 rfl) rfl (lv_at hl 1 rfl) ?_
  refine lv_sipush (v := (133 : Int32)) G.hx G.hb (dcs_get dec_X4_parseLaw_1 15 rfl) (by decide) ?_
  obtain ⟨v22, σ23, h21, hf⟩ := cC_some hf
  refine a_l (k_V (As := [.int (133 : Int32)]) (rest := []) cls4 lb_X4_take lv_X4_take q_613 (C_X4_take G.2.2.1 a0 (133 : Int32) σ20 h21 ok_a0) ⟨(Nat.le_of_ble_eq_true rfl), (Nat.le_of_ble_eq_true rfl)⟩ G w k_a0.1 k_a0.2 rfl rfl hl.1 (Nat.le_of_ble_eq_true rfl) (dcs_get dec_X4_parseLaw_1 16 rfl) ⟨Nat.le_refl _, Nat.le_refl _⟩) G w (fun H locs w => ?_)
  refine lv_pop2_2 G.hx G.hb (dcs_get dec_X4_parseLaw_1 17 rfl) rfl ?_
  refine lv_aload_n G.hx G.hb (dcs_get dec_X4_parseLaw_1 18 rfl) rfl (lv_at hl 1 rfl) ?_
  refine lv_iconst (v := (0 : Int32)) G.hx G.hb (dcs_get dec_X4_parseLaw_1 19 rfl) (by decide) ?_
  obtain ⟨σ25, h24, hf⟩ := cB_some hf
  refine a_v (k_V (As := [.int (0 : Int32)]) (rest := []) cls4 lb_X4_parseSum lv_X4_parseSum q_645 (CS G.2.2.1 8 a0 (0 : Int32) σ23 h24 ok_a0) ⟨(Nat.le_of_ble_eq_true rfl), (Nat.le_of_ble_eq_true rfl)⟩ G w k_a0.1 k_a0.2 rfl rfl hl.1 (Nat.le_of_ble_eq_true rfl) (dcs_get dec_X4_parseLaw_1 20 rfl) ⟨Nat.le_refl _, Nat.le_refl _⟩) G w (fun H locs w => ?_)
  refine lv_aload_n G.hx G.hb (dcs_get dec_X4_parseLaw_1 21 rfl) rfl (lv_at hl 1 rfl) ?_
  refine lv_sipush (v := (134 : Int32)) G.hx G.hb (dcs_get dec_X4_parseLaw_1 22 rfl) (by decide) ?_
  obtain ⟨v27, σ28, h26, hf⟩ := cC_some hf
  refine a_l (k_V (As := [.int (134 : Int32)]) (rest := []) cls4 lb_X4_take lv_X4_take q_613 (C_X4_take G.2.2.1 a0 (134 : Int32) σ25 h26 ok_a0) ⟨(Nat.le_of_ble_eq_true rfl), (Nat.le_of_ble_eq_true rfl)⟩ G w k_a0.1 k_a0.2 rfl rfl hl.1 (Nat.le_of_ble_eq_true rfl) (dcs_get dec_X4_parseLaw_1 23 rfl) ⟨Nat.le_refl _, Nat.le_refl _⟩) G w (fun H locs w => ?_)
  refine lv_pop2_2 G.hx G.hb (dcs_get dec_X4_parseLaw_1 24 rfl) rfl ?_
  refine lv_aload_n G.hx G.hb (dcs_get dec_X4_parseLaw_1 25 rfl) rfl (lv_at hl 1 rfl) ?_
  obtain ⟨z29, e_z29, ok_z29, hf⟩ := cR_some hf
  have k_z29 := okr_in ok_z29
  refine r_getr (k := 3) cls4 fi_4_3.1 fi_4_3.2 q_200 G w k_a0.1 k_a0.2 e_z29 (dcs_get dec_X4_parseLaw_1 26 rfl) ?_
  obtain ⟨z30, e_z30, ok_z30, hf⟩ := cR_some hf
  have k_z30 := okr_in ok_z30
  refine r_getrN (k := 5) cls7 fi_7_5.1 fi_7_5.2 nf_110 G w k_z29.1 k_z29.2 e_z30 (dcs_get dec_X4_parseLaw_1 27 rfl) ?_
  refine lv_bipush (v := (-59 : Int32)) G.hx G.hb (dcs_get dec_X4_parseLaw_1 28 rfl) (by decide) ?_
  obtain ⟨v32, σ33, h31, hf⟩ := cC_some hf
  refine a_i (k_VN (As := [.int (-59 : Int32)]) (rest := []) cls0 lb_X0_add lv_X0_add nm_657 (C_X0_add G.2.2.1 z30 (-59 : Int32) σ28 h31 ok_z30) ⟨(Nat.le_of_ble_eq_true rfl), (Nat.le_of_ble_eq_true rfl)⟩ G w k_z30.1 k_z30.2 rfl rfl hl.1 (Nat.le_of_ble_eq_true rfl) (dcs_get dec_X4_parseLaw_1 29 rfl) ⟨Nat.le_refl _, Nat.le_refl _⟩) G w (fun H locs w => ?_)
  refine lv_pop G.hx G.hb (dcs_get dec_X4_parseLaw_1 30 rfl) rfl ?_
  refine lv_aload_n G.hx G.hb (dcs_get dec_X4_parseLaw_1 31 rfl) rfl (lv_at hl 1 rfl) ?_
  obtain ⟨z34, e_z34, ok_z34, hf⟩ := cR_some hf
  have k_z34 := okr_in ok_z34
  refine r_getr (k := 3) cls4 fi_4_3.1 fi_4_3.2 q_200 G w k_a0.1 k_a0.2 e_z34 (dcs_get dec_X4_parseLaw_1 32 rfl) ?_
  obtain ⟨z35, e_z35, ok_z35, hf⟩ := cR_some hf
  have k_z35 := okr_in ok_z35
  refine r_getrN (k := 5) cls7 fi_7_5.1 fi_7_5.2 nf_110 G w k_z34.1 k_z34.2 e_z35 (dcs_get dec_X4_parseLaw_1 33 rfl) ?_
  refine lv_iload_n G.hx G.hb (dcs_get dec_X4_parseLaw_1 34 rfl) rfl (lv_at hl 0 rfl) ?_
  obtain ⟨σ37, h36, hf⟩ := cB_some hf
  refine a_v (k_VN (As := [.int v19]) (rest := []) cls0 lb_X0_aimHere lv_X0_aimHere nm_658 (C_X0_aimHere G.2.2.1 z35 v19 σ33 h36 ok_z35) ⟨(Nat.le_of_ble_eq_true rfl), (Nat.le_of_ble_eq_true rfl)⟩ G w k_z35.1 k_z35.2 rfl rfl hl.1 (Nat.le_of_ble_eq_true rfl) (dcs_get dec_X4_parseLaw_1 35 rfl) ⟨Nat.le_refl _, Nat.le_refl _⟩) G w (fun H locs w => ?_)
  obtain ⟨v38, e_v38, hf⟩ := cL_some hf
  refine lv_iinc (v := v38) (lv' := [(1, .int v38), (2, .int v19), (0, .ref (ad a0))]) G.hx G.hb (dcs_get dec_X4_parseLaw_1 36 rfl) hl (k := 2) rfl (by rw [e_v38]; rfl) (by decide) rfl (fun ls hl => ?_)
  refine lv_goto (tgt := 28) G.hx G.hb (dcs_get dec_X4_parseLaw_1 37 rfl) (by decide) ?_
  exact hb0 _ (Option.some.inj hf).symm _ _ _ w (lv_sub hl [2, 0] rfl)
set_option maxRecDepth 100000 in
set_option maxHeartbeats 4000000 in
theorem B_X4_parseLaw_154 {H : Heap} {locs : List Loc} {ls : Array Slot} {σ0 : hSt} (a0 : Nat) (σ : hSt) (G : Gx p m c cX4_parseLaw 3 s args RX4 D ay NC ad (aN NC ad)) (hm : meth.sig.returnType = none ∧ meth.locks = false) (ok_a0 : okr kC NC 4 a0 = true) (hf : F_X4_parseLaw_154 a0 σ = some σ0)  (w : Wd D ay kC NC ad (aN NC ad) s σ H locs) (hl : lv_has ls 3 [(0, .ref (ad a0))]) : W p l e (rmK 97 2423) s m args below meth c H locs 0 0 (MQ below (cV D ay kC NC ad σ0) args s 0 0 (aN NC ad)) (F0 m 154 ls []) := by
  have k_a0 := okr_in ok_a0
  unfold F_X4_parseLaw_154 at hf
  refine lv_aload_n G.hx G.hb (dcs_get dec_X4_parseLaw_1 38 rfl) rfl (lv_at hl 0 rfl) ?_
  refine lv_iconst (v := (0 : Int32)) G.hx G.hb (dcs_get dec_X4_parseLaw_1 39 rfl) (by decide) ?_
  obtain ⟨σ40, h39, hf⟩ := cB_some hf
  refine a_v (k_V (As := [.int (0 : Int32)]) (rest := []) cls4 lb_X4_parseSum lv_X4_parseSum q_645 (CS G.2.2.1 8 a0 (0 : Int32) σ h39 ok_a0) ⟨(Nat.le_of_ble_eq_true rfl), (Nat.le_of_ble_eq_true rfl)⟩ G w k_a0.1 k_a0.2 rfl rfl hl.1 (Nat.le_of_ble_eq_true rfl) (dcs_get dec_X4_parseLaw_2 0 rfl) ⟨Nat.le_refl _, Nat.le_refl _⟩) G w (fun H locs w => ?_)
  refine lv_aload_n G.hx G.hb (dcs_get dec_X4_parseLaw_2 1 rfl) rfl (lv_at hl 0 rfl) ?_
  obtain ⟨z41, e_z41, ok_z41, hf⟩ := cR_some hf
  have k_z41 := okr_in ok_z41
  refine r_getr (k := 3) cls4 fi_4_3.1 fi_4_3.2 q_200 G w k_a0.1 k_a0.2 e_z41 (dcs_get dec_X4_parseLaw_2 2 rfl) ?_
  obtain ⟨z42, e_z42, ok_z42, hf⟩ := cR_some hf
  have k_z42 := okr_in ok_z42
  refine r_getrN (k := 5) cls7 fi_7_5.1 fi_7_5.2 nf_110 G w k_z41.1 k_z41.2 e_z42 (dcs_get dec_X4_parseLaw_2 3 rfl) ?_
  refine lv_bipush (v := (-59 : Int32)) G.hx G.hb (dcs_get dec_X4_parseLaw_2 4 rfl) (by decide) ?_
  obtain ⟨v44, σ45, h43, hf⟩ := cC_some hf
  refine a_i (k_VN (As := [.int (-59 : Int32)]) (rest := []) cls0 lb_X0_add lv_X0_add nm_657 (C_X0_add G.2.2.1 z42 (-59 : Int32) σ40 h43 ok_z42) ⟨(Nat.le_of_ble_eq_true rfl), (Nat.le_of_ble_eq_true rfl)⟩ G w k_z42.1 k_z42.2 rfl rfl hl.1 (Nat.le_of_ble_eq_true rfl) (dcs_get dec_X4_parseLaw_2 5 rfl) ⟨Nat.le_refl _, Nat.le_refl _⟩) G w (fun H locs w => ?_)
  refine lv_pop G.hx G.hb (dcs_get dec_X4_parseLaw_2 6 rfl) rfl ?_
  have e9 := Option.some.inj hf
  exact r_vret G w hm e9 (dcs_get dec_X4_parseLaw_2 7 rfl)
set_option maxRecDepth 100000 in
set_option maxHeartbeats 4000000 in
theorem B_X4_parseLaw_28b {H : Heap} {locs : List Loc} {ls : Array Slot} {σ0 : hSt} {o : (Int32 × hSt) ⊕ (hSt)} (a0 : Nat) (l1 : Int32) (σ : hSt) (G : Gx p m c cX4_parseLaw 3 s args RX4 D ay NC ad (aN NC ad)) (hm : meth.sig.returnType = none ∧ meth.locks = false) (ok_a0 : okr kC NC 4 a0 = true) (hf : F_X4_parseLaw_28b a0 l1 σ = some o) (hb0 : ∀ (v : Int32 × hSt), o = .inl v → ∀ (H : Heap) (locs : List Loc) (ls : Array Slot), Wd D ay kC NC ad (aN NC ad) s v.2 H locs → lv_has ls 3 [(0, .ref (ad a0)), (1, .int v.1)] → W p l e (rmK 97 2423) s m args below meth c H locs 0 0 (MQ below (cV D ay kC NC ad σ0) args s 0 0 (aN NC ad)) (F0 m 28 ls [])) (hr : ∀ x, o = .inr (x) → x = σ0) (w : Wd D ay kC NC ad (aN NC ad) s σ H locs) (hl : lv_has ls 3 [(0, .ref (ad a0)), (1, .int l1)]) : W p l e (rmK 97 2423) s m args below meth c H locs 0 0 (MQ below (cV D ay kC NC ad σ0) args s 0 0 (aN NC ad)) (F0 m 28 ls []) := by
  have k_a0 := okr_in ok_a0
  unfold F_X4_parseLaw_28b at hf
  refine lv_iload_n G.hx G.hb (dcs_get dec_X4_parseLaw_0 15 rfl) rfl (lv_at hl 1 rfl) ?_
  refine lv_iconst (v := (4 : Int32)) G.hx G.hb (dcs_get dec_X4_parseLaw_0 16 rfl) (by decide) ?_
  refine lv_icmp_gt (tgt := 154) G.hx G.hb (dcs_get dec_X4_parseLaw_0 17 rfl) (by decide) (fun hc => ?_) (fun hc => ?_)
  · rw [if_pos hc] at hf
    obtain ⟨x9, h9, e9⟩ := map_some_inv hf
    subst e9
    have e8 := hr _ rfl
    rw [e8] at h9
    exact B_X4_parseLaw_154 a0 σ G hm ok_a0 h9 w (lv_sub hl [0] rfl)
  · rw [if_neg hc] at hf
    refine lv_aload_n G.hx G.hb (dcs_get dec_X4_parseLaw_0 18 rfl) rfl (lv_at hl 0 rfl) ?_
    obtain ⟨v47, h46, hf⟩ := cB_some hf
    refine a_i (k_V (As := []) (rest := []) cls4 lb_X4_kind lv_X4_kind q_597 (C_X4_kind G.2.2.1 a0 σ h46 ok_a0) ⟨(Nat.le_of_ble_eq_true rfl), (Nat.le_of_ble_eq_true rfl)⟩ G w k_a0.1 k_a0.2 rfl rfl hl.1 (Nat.le_of_ble_eq_true rfl) (dcs_get dec_X4_parseLaw_0 19 rfl) ⟨Nat.le_refl _, Nat.le_refl _⟩) G w (fun H locs w => ?_)
    refine lv_sipush (v := (132 : Int32)) G.hx G.hb (dcs_get dec_X4_parseLaw_0 20 rfl) (by decide) ?_
    refine lv_icmp_ne (tgt := 154) G.hx G.hb (dcs_get dec_X4_parseLaw_0 21 rfl) (by decide) (fun hc => ?_) (fun hc => ?_)
    · rw [if_neg hc] at hf
      obtain ⟨x9, h9, e9⟩ := map_some_inv hf
      subst e9
      have e8 := hr _ rfl
      rw [e8] at h9
      exact B_X4_parseLaw_154 a0 σ G hm ok_a0 h9 w (lv_sub hl [0] rfl)
    · rw [if_pos hc] at hf
      refine lv_iload_n G.hx G.hb (dcs_get dec_X4_parseLaw_0 22 rfl) rfl (lv_at hl 1 rfl) ?_
      refine lv_iconst (v := (4 : Int32)) G.hx G.hb (dcs_get dec_X4_parseLaw_0 23 rfl) (by decide) ?_
      refine lv_icmp_ne (tgt := 53) G.hx G.hb (dcs_get dec_X4_parseLaw_0 24 rfl) (by decide) (fun hc => ?_) (fun hc => ?_)
      · rw [if_neg hc] at hf
        exact B_X4_parseLaw_53 a0 l1 σ G hm ok_a0 hf hb0 hr w (lv_sub hl [0, 1] rfl)
      · rw [if_pos hc] at hf
        refine lv_aload_n G.hx G.hb (dcs_get dec_X4_parseLaw_0 25 rfl) rfl (lv_at hl 0 rfl) ?_
        refine lv_iconst (v := (2 : Int32)) G.hx G.hb (dcs_get dec_X4_parseLaw_0 26 rfl) (by decide) ?_
        obtain ⟨σ49, h48, hf⟩ := cB_some hf
        refine a_v (k_V (As := [.int (2 : Int32)]) (rest := []) cls4 lb_X4_fail lv_X4_fail q_609 (C_X4_fail G.2.2.1 a0 (2 : Int32) σ h48 ok_a0) ⟨(Nat.le_of_ble_eq_true rfl), (Nat.le_of_ble_eq_true rfl)⟩ G w k_a0.1 k_a0.2 rfl rfl hl.1 (Nat.le_of_ble_eq_true rfl) (dcs_get dec_X4_parseLaw_0 27 rfl) ⟨Nat.le_refl _, Nat.le_refl _⟩) G w (fun H locs w => ?_)
        exact B_X4_parseLaw_53 a0 l1 σ49 G hm ok_a0 hf hb0 hr w (lv_sub hl [0, 1] rfl)
set_option maxRecDepth 100000 in
set_option maxHeartbeats 4000000 in
theorem H_X4_parseLaw_28 {σ0 : hSt} (a0 : Nat) (G : Gx p m c cX4_parseLaw 3 s args RX4 D ay NC ad (aN NC ad)) (hm : meth.sig.returnType = none ∧ meth.locks = false) (ok_a0 : okr kC NC 4 a0 = true)  : ∀ (k : Nat) (v : Int32 × hSt), lp (S_X4_parseLaw_28 a0) k v = some σ0 → ∀ (H : Heap) (locs : List Loc) (ls : Array Slot), Wd D ay kC NC ad (aN NC ad) s v.2 H locs → lv_has ls 3 [(0, .ref (ad a0)), (1, .int v.1)] → W p l e (rmK 97 2423) s m args below meth c H locs 0 0 (MQ below (cV D ay kC NC ad σ0) args s 0 0 (aN NC ad)) (F0 m 28 ls []) := by
  intro k
  induction k with
  | zero => intro v hf; cases hf
  | succ k ih =>
    intro v hf H locs ls w hl
    obtain ⟨o1, h1, h2, h3⟩ := lp_some hf
    exact B_X4_parseLaw_28b a0 v.1 v.2 G hm ok_a0 h1  (fun v' e => ih v' (h2 v' e)) (fun x e => h3 x e) w hl
set_option maxRecDepth 100000 in
set_option maxHeartbeats 4000000 in
theorem B_X4_parseLaw_28 {H : Heap} {locs : List Loc} {ls : Array Slot} {σ0 : hSt} (a0 : Nat) (l1 : Int32) (σ : hSt) (G : Gx p m c cX4_parseLaw 3 s args RX4 D ay NC ad (aN NC ad)) (hm : meth.sig.returnType = none ∧ meth.locks = false) (ok_a0 : okr kC NC 4 a0 = true) (hf : F_X4_parseLaw_28 a0 l1 σ = some σ0)  (w : Wd D ay kC NC ad (aN NC ad) s σ H locs) (hl : lv_has ls 3 [(0, .ref (ad a0)), (1, .int l1)]) : W p l e (rmK 97 2423) s m args below meth c H locs 0 0 (MQ below (cV D ay kC NC ad σ0) args s 0 0 (aN NC ad)) (F0 m 28 ls []) := by
  unfold F_X4_parseLaw_28 at hf
  exact H_X4_parseLaw_28 a0  G hm ok_a0  fuel (l1, σ) hf _ _ _ w hl
set_option maxRecDepth 100000 in
set_option maxHeartbeats 4000000 in
theorem B_X4_parseLaw_0 {H : Heap} {locs : List Loc} {ls : Array Slot} {σ0 : hSt} (a0 : Nat) (σ : hSt) (G : Gx p m c cX4_parseLaw 3 s args RX4 D ay NC ad (aN NC ad)) (hm : meth.sig.returnType = none ∧ meth.locks = false) (ok_a0 : okr kC NC 4 a0 = true) (hf : F_X4_parseLaw a0 σ = some σ0)  (w : Wd D ay kC NC ad (aN NC ad) s σ H locs) (hl : lv_has ls 3 [(0, .ref (ad a0))]) : W p l e (rmK 97 2423) s m args below meth c H locs 0 0 (MQ below (cV D ay kC NC ad σ0) args s 0 0 (aN NC ad)) (F0 m 0 ls []) := by
  have k_a0 := okr_in ok_a0
  unfold F_X4_parseLaw at hf
  refine lv_aload_n G.hx G.hb (dcs_get dec_X4_parseLaw_0 0 rfl) rfl (lv_at hl 0 rfl) ?_
  refine lv_sipush (v := (131 : Int32)) G.hx G.hb (dcs_get dec_X4_parseLaw_0 1 rfl) (by decide) ?_
  obtain ⟨v51, σ52, h50, hf⟩ := cC_some hf
  refine a_l (k_V (As := [.int (131 : Int32)]) (rest := []) cls4 lb_X4_take lv_X4_take q_613 (C_X4_take G.2.2.1 a0 (131 : Int32) σ h50 ok_a0) ⟨(Nat.le_of_ble_eq_true rfl), (Nat.le_of_ble_eq_true rfl)⟩ G w k_a0.1 k_a0.2 rfl rfl hl.1 (Nat.le_of_ble_eq_true rfl) (dcs_get dec_X4_parseLaw_0 2 rfl) ⟨Nat.le_refl _, Nat.le_refl _⟩) G w (fun H locs w => ?_)
  refine lv_pop2_2 G.hx G.hb (dcs_get dec_X4_parseLaw_0 3 rfl) rfl ?_
  refine lv_aload_n G.hx G.hb (dcs_get dec_X4_parseLaw_0 4 rfl) rfl (lv_at hl 0 rfl) ?_
  refine lv_bipush (v := (61 : Int32)) G.hx G.hb (dcs_get dec_X4_parseLaw_0 5 rfl) (by decide) ?_
  obtain ⟨v54, σ55, h53, hf⟩ := cC_some hf
  refine a_l (k_V (As := [.int (61 : Int32)]) (rest := []) cls4 lb_X4_take lv_X4_take q_613 (C_X4_take G.2.2.1 a0 (61 : Int32) σ52 h53 ok_a0) ⟨(Nat.le_of_ble_eq_true rfl), (Nat.le_of_ble_eq_true rfl)⟩ G w k_a0.1 k_a0.2 rfl rfl hl.1 (Nat.le_of_ble_eq_true rfl) (dcs_get dec_X4_parseLaw_0 6 rfl) ⟨Nat.le_refl _, Nat.le_refl _⟩) G w (fun H locs w => ?_)
  refine lv_pop2_2 G.hx G.hb (dcs_get dec_X4_parseLaw_0 7 rfl) rfl ?_
  refine lv_aload_n G.hx G.hb (dcs_get dec_X4_parseLaw_0 8 rfl) rfl (lv_at hl 0 rfl) ?_
  obtain ⟨z56, e_z56, ok_z56, hf⟩ := cR_some hf
  have k_z56 := okr_in ok_z56
  refine r_getr (k := 3) cls4 fi_4_3.1 fi_4_3.2 q_200 G w k_a0.1 k_a0.2 e_z56 (dcs_get dec_X4_parseLaw_0 9 rfl) ?_
  obtain ⟨z57, e_z57, ok_z57, hf⟩ := cR_some hf
  have k_z57 := okr_in ok_z57
  refine r_getrN (k := 5) cls7 fi_7_5.1 fi_7_5.2 nf_110 G w k_z56.1 k_z56.2 e_z57 (dcs_get dec_X4_parseLaw_0 10 rfl) ?_
  refine lv_iconst (v := (0 : Int32)) G.hx G.hb (dcs_get dec_X4_parseLaw_0 11 rfl) (by decide) ?_
  obtain ⟨σ58, e_σ58, hf⟩ := cL_some hf
  refine r_putiN (k := 2) cls0 ct0 fi_0_2.1 fi_0_2.2 fp_0_2.1 fp_0_2.2 nf_62 rfl rfl G w k_z57.1 k_z57.2 (dcs_get dec_X4_parseLaw_0 12 rfl) (fun H locs w => ?_)
  have w := Wd.nm e_σ58 w
  refine lv_iconst (v := (0 : Int32)) G.hx G.hb (dcs_get dec_X4_parseLaw_0 13 rfl) (by decide) ?_
  refine lv_istore_n (lv' := [(1, .int (0 : Int32)), (0, .ref (ad a0))]) G.hx G.hb (dcs_get dec_X4_parseLaw_0 14 rfl) rfl hl (by decide) rfl (fun ls hl => ?_)
  exact B_X4_parseLaw_28 a0 (0 : Int32) σ58 G hm ok_a0 hf  w (lv_sub hl [1, 0] rfl)
end
set_option maxRecDepth 100000 in
set_option maxHeartbeats 4000000 in
theorem C_X4_parseLaw {l : Launch} {D : va_G} {ay : Nat → ClassId} {ad : Nat → Nat} (hi : hInj NC ad) (a0 : Nat) (σ : hSt) {σ0 : hSt} (hf : F_X4_parseLaw a0 σ = some σ0) (ok_a0 : okr kC NC 4 a0 = true) : hM l D ay kC NC ad yX4_parseLaw cX4_parseLaw 3 (none) (rmK 97 2423) [.ref (ad a0)] σ (cV D ay kC NC ad σ0) := by
  refine hM_in (by decide) hi (Nat.le_of_ble_eq_true rfl) ?_
  intro p e s m below meth c G hm w ls hl
  exact B_X4_parseLaw_0 a0 σ G hm ok_a0 hf w (lv_sub hl [0] rfl)

/-! HillDrums.Reader.parseRow(ILHillDrums$Row;)V -/
def DL_X4_parseRow_0 : List (Nat × Instr × Nat) := [(0, .aload_n 0, 1), (1, .iload_n 1, 1), (2, .invokevirtual 71, 3), (5, .pop2, 1), (6, .aload_n 2, 1), (7, .iconst 0, 1), (8, .putfield 145, 3), (11, .iconst 0, 1), (12, .istore_n 3, 1), (13, .iload_n 3, 1), (14, .bipush 12, 2), (16, .if_icmp .gt 51, 3), (19, .aload_n 0, 1), (20, .invokevirtual 54, 3), (23, .iconst 3, 1), (24, .if_icmp .ne 43, 3), (27, .iload_n 3, 1), (28, .bipush 12, 2), (30, .if_icmp .ne 11, 3), (33, .aload_n 0, 1), (34, .iconst 2, 1), (35, .invokevirtual 121, 3), (38, .goto 23, 3), (41, .aload_n 2, 1), (42, .getfield 150, 3), (45, .iload_n 3, 1), (46, .aload_n 0, 1), (47, .iconst 0, 1), (48, .bipush 99, 2), (50, .invokevirtual 132, 3), (53, .iastore, 1), (54, .aload_n 2, 1), (55, .iload_n 3, 1), (56, .iconst 1, 1), (57, .iadd, 1), (58, .putfield 145, 3), (61, .iinc 3 1, 3), (64, .goto (-51), 3), (67, .return_, 1)]
set_option maxRecDepth 100000 in
theorem dec_X4_parseRow_0 : dcs cX4_parseRow DL_X4_parseRow_0 = true := by decide +kernel
theorem lb_X4_parseRow : lkB yX4_parseRow cX4_parseRow 4 (none) 2 := ⟨q_665, q_6, ⟨by decide, by decide⟩, by decide +kernel⟩
theorem lv_X4_parseRow : lkV yX4_parseRow := ⟨q_664, qs_27⟩
def F_X4_parseRow_61 (a0 : Nat) (a2 : Nat) (l3 : Int32) (σ : hSt) : Option ((Int32 × hSt) ⊕ (hSt)) :=
cL (l3 + (1 : Int32)) fun v1 =>
some (.inl (v1, σ))
def F_X4_parseRow_67  (σ : hSt) : Option (hSt) :=
some (σ)
def F_X4_parseRow_13b (a0 : Nat) (a2 : Nat) (l3 : Int32) (σ : hSt) : Option ((Int32 × hSt) ⊕ (hSt)) :=
if (12 : Int32) < l3 then (
(F_X4_parseRow_67  σ).map (fun x => .inr (x))) else (
(F_X4_kind a0 σ).bind fun v3 =>
if v3 = (3 : Int32) then (
if l3 = (12 : Int32) then (
(F_X4_fail a0 (2 : Int32) σ).bind fun σ12 =>
F_X4_parseRow_61 a0 a2 l3 σ12) else (
cR (σ.2.2 a2 0) (okr kC NC 101) fun z4 =>
cC (F_X4_takeNumber a0 (0 : Int32) (99 : Int32) σ) fun v6 σ7 =>
cG (inb l3 (kC z4).2) <|
cL (uI σ7 z4 l3.toNatClampNeg v6) fun σ9 =>
cL (uI σ9 a2 1 (l3 + (1 : Int32))) fun σ10 =>
F_X4_parseRow_61 a0 a2 l3 σ10)) else (
(F_X4_parseRow_67  σ).map (fun x => .inr (x))))
def S_X4_parseRow_13 (a0 : Nat) (a2 : Nat) (v : Int32 × hSt) : Option ((Int32 × hSt) ⊕ (hSt)) := F_X4_parseRow_13b a0 a2 v.1 v.2
def F_X4_parseRow_13 (a0 : Nat) (a2 : Nat) (l3 : Int32) (σ : hSt) : Option (hSt) := lp (S_X4_parseRow_13 a0 a2) fuel (l3, σ)
def F_X4_parseRow (a0 : Nat) (l1 : Int32) (a2 : Nat) (σ : hSt) : Option (hSt) :=
cC (F_X4_take a0 l1 σ) fun v14 σ15 =>
cL (uI σ15 a2 1 (0 : Int32)) fun σ16 =>
F_X4_parseRow_13 a0 a2 (0 : Int32) σ16
section
variable {p : Program} {l : Launch} {e : Env} {s : State} {m : MethodId} {args : Array Value} {below : List Frame} {meth : Method} {c : Code} {D : va_G} {ay : Nat → ClassId} {ad : Nat → Nat}
set_option maxRecDepth 100000 in
set_option maxHeartbeats 4000000 in
theorem B_X4_parseRow_61 {H : Heap} {locs : List Loc} {ls : Array Slot} {σ0 : hSt} {o : (Int32 × hSt) ⊕ (hSt)} (a0 : Nat) (a2 : Nat) (l3 : Int32) (σ : hSt) (G : Gx p m c cX4_parseRow 4 s args RX4 D ay NC ad (aN NC ad)) (hm : meth.sig.returnType = none ∧ meth.locks = false) (ok_a0 : okr kC NC 4 a0 = true) (ok_a2 : okr kC NC 5 a2 = true) (hf : F_X4_parseRow_61 a0 a2 l3 σ = some o) (hb0 : ∀ (v : Int32 × hSt), o = .inl v → ∀ (H : Heap) (locs : List Loc) (ls : Array Slot), Wd D ay kC NC ad (aN NC ad) s v.2 H locs → lv_has ls 4 [(0, .ref (ad a0)), (2, .ref (ad a2)), (3, .int v.1)] → W p l e (rmK 2 45) s m args below meth c H locs 0 0 (MQ below (cV D ay kC NC ad σ0) args s 0 0 (aN NC ad)) (F0 m 13 ls [])) (hr : ∀ x, o = .inr (x) → x = σ0) (w : Wd D ay kC NC ad (aN NC ad) s σ H locs) (hl : lv_has ls 4 [(0, .ref (ad a0)), (2, .ref (ad a2)), (3, .int l3)]) : W p l e (rmK 2 45) s m args below meth c H locs 0 0 (MQ below (cV D ay kC NC ad σ0) args s 0 0 (aN NC ad)) (F0 m 61 ls []) := by
  have k_a0 := okr_in ok_a0
  have k_a2 := okr_in ok_a2
  unfold F_X4_parseRow_61 at hf
  obtain ⟨v1, e_v1, hf⟩ := cL_some hf
  refine lv_iinc (v := v1) (lv' := [(3, .int v1), (0, .ref (ad a0)), (2, .ref (ad a2))]) G.hx G.hb (dcs_get dec_X4_parseRow_0 36 rfl) hl (k := 2) rfl (by rw [e_v1]; rfl) (by decide) rfl (fun ls hl => ?_)
  refine lv_goto (tgt := 13) G.hx G.hb (dcs_get dec_X4_parseRow_0 37 rfl) (by decide) ?_
  exact hb0 _ (Option.some.inj hf).symm _ _ _ w (lv_sub hl [1, 2, 0] rfl)
set_option maxRecDepth 100000 in
set_option maxHeartbeats 4000000 in
theorem B_X4_parseRow_67 {H : Heap} {locs : List Loc} {ls : Array Slot} {σ0 : hSt}  (σ : hSt) (G : Gx p m c cX4_parseRow 4 s args RX4 D ay NC ad (aN NC ad)) (hm : meth.sig.returnType = none ∧ meth.locks = false)  (hf : F_X4_parseRow_67  σ = some σ0)  (w : Wd D ay kC NC ad (aN NC ad) s σ H locs) (hl : lv_has ls 4 []) : W p l e (rmK 2 45) s m args below meth c H locs 0 0 (MQ below (cV D ay kC NC ad σ0) args s 0 0 (aN NC ad)) (F0 m 67 ls []) := by
  unfold F_X4_parseRow_67 at hf
  have e9 := Option.some.inj hf
  exact r_vret G w hm e9 (dcs_get dec_X4_parseRow_0 38 rfl)
set_option maxRecDepth 100000 in
set_option maxHeartbeats 4000000 in
theorem B_X4_parseRow_13b {H : Heap} {locs : List Loc} {ls : Array Slot} {σ0 : hSt} {o : (Int32 × hSt) ⊕ (hSt)} (a0 : Nat) (a2 : Nat) (l3 : Int32) (σ : hSt) (G : Gx p m c cX4_parseRow 4 s args RX4 D ay NC ad (aN NC ad)) (hm : meth.sig.returnType = none ∧ meth.locks = false) (ok_a0 : okr kC NC 4 a0 = true) (ok_a2 : okr kC NC 5 a2 = true) (hf : F_X4_parseRow_13b a0 a2 l3 σ = some o) (hb0 : ∀ (v : Int32 × hSt), o = .inl v → ∀ (H : Heap) (locs : List Loc) (ls : Array Slot), Wd D ay kC NC ad (aN NC ad) s v.2 H locs → lv_has ls 4 [(0, .ref (ad a0)), (2, .ref (ad a2)), (3, .int v.1)] → W p l e (rmK 2 45) s m args below meth c H locs 0 0 (MQ below (cV D ay kC NC ad σ0) args s 0 0 (aN NC ad)) (F0 m 13 ls [])) (hr : ∀ x, o = .inr (x) → x = σ0) (w : Wd D ay kC NC ad (aN NC ad) s σ H locs) (hl : lv_has ls 4 [(0, .ref (ad a0)), (2, .ref (ad a2)), (3, .int l3)]) : W p l e (rmK 2 45) s m args below meth c H locs 0 0 (MQ below (cV D ay kC NC ad σ0) args s 0 0 (aN NC ad)) (F0 m 13 ls []) := by
  have k_a0 := okr_in ok_a0
  have k_a2 := okr_in ok_a2
  unfold F_X4_parseRow_13b at hf
  refine lv_iload_n G.hx G.hb (dcs_get dec_X4_parseRow_0 9 rfl) rfl (lv_at hl 2 rfl) ?_
  refine lv_bipush (v := (12 : Int32)) G.hx G.hb (dcs_get dec_X4_parseRow_0 10 rfl) (by decide) ?_
  refine lv_icmp_gt (tgt := 67) G.hx G.hb (dcs_get dec_X4_parseRow_0 11 rfl) (by decide) (fun hc => ?_) (fun hc => ?_)
  · rw [if_pos hc] at hf
    obtain ⟨x9, h9, e9⟩ := map_some_inv hf
    subst e9
    have e8 := hr _ rfl
    rw [e8] at h9
    exact B_X4_parseRow_67  σ G hm  h9 w (lv_sub hl [] rfl)
  · rw [if_neg hc] at hf
    refine lv_aload_n G.hx G.hb (dcs_get dec_X4_parseRow_0 12 rfl) rfl (lv_at hl 0 rfl) ?_
    obtain ⟨v3, h2, hf⟩ := cB_some hf
    refine a_i (k_V (As := []) (rest := []) cls4 lb_X4_kind lv_X4_kind q_597 (C_X4_kind G.2.2.1 a0 σ h2 ok_a0) ⟨(Nat.le_of_ble_eq_true rfl), (Nat.le_of_ble_eq_true rfl)⟩ G w k_a0.1 k_a0.2 rfl rfl hl.1 (Nat.le_of_ble_eq_true rfl) (dcs_get dec_X4_parseRow_0 13 rfl) ⟨Nat.le_refl _, Nat.le_refl _⟩) G w (fun H locs w => ?_)
    refine lv_iconst (v := (3 : Int32)) G.hx G.hb (dcs_get dec_X4_parseRow_0 14 rfl) (by decide) ?_
    refine lv_icmp_ne (tgt := 67) G.hx G.hb (dcs_get dec_X4_parseRow_0 15 rfl) (by decide) (fun hc => ?_) (fun hc => ?_)
    · rw [if_neg hc] at hf
      obtain ⟨x9, h9, e9⟩ := map_some_inv hf
      subst e9
      have e8 := hr _ rfl
      rw [e8] at h9
      exact B_X4_parseRow_67  σ G hm  h9 w (lv_sub hl [] rfl)
    · rw [if_pos hc] at hf
      refine lv_iload_n G.hx G.hb (dcs_get dec_X4_parseRow_0 16 rfl) rfl (lv_at hl 2 rfl) ?_
      refine lv_bipush (v := (12 : Int32)) G.hx G.hb (dcs_get dec_X4_parseRow_0 17 rfl) (by decide) ?_
      refine lv_icmp_ne (tgt := 41) G.hx G.hb (dcs_get dec_X4_parseRow_0 18 rfl) (by decide) (fun hc => ?_) (fun hc => ?_)
      · rw [if_neg hc] at hf
        refine lv_aload_n G.hx G.hb (dcs_get dec_X4_parseRow_0 23 rfl) rfl (lv_at hl 1 rfl) ?_
        obtain ⟨z4, e_z4, ok_z4, hf⟩ := cR_some hf
        have k_z4 := okr_in ok_z4
        refine r_getrN (k := 0) cls5 fi_5_0.1 fi_5_0.2 nf_81 G w k_a2.1 k_a2.2 e_z4 (dcs_get dec_X4_parseRow_0 24 rfl) ?_
        refine lv_iload_n G.hx G.hb (dcs_get dec_X4_parseRow_0 25 rfl) rfl (lv_at hl 2 rfl) ?_
        refine lv_aload_n G.hx G.hb (dcs_get dec_X4_parseRow_0 26 rfl) rfl (lv_at hl 0 rfl) ?_
        refine lv_iconst (v := (0 : Int32)) G.hx G.hb (dcs_get dec_X4_parseRow_0 27 rfl) (by decide) ?_
        refine lv_bipush (v := (99 : Int32)) G.hx G.hb (dcs_get dec_X4_parseRow_0 28 rfl) (by decide) ?_
        obtain ⟨v6, σ7, h5, hf⟩ := cC_some hf
        refine a_i (k_V (As := [.int (0 : Int32), .int (99 : Int32)]) (rest := [.int l3, .ref (ad z4)]) cls4 lb_X4_takeNumber lv_X4_takeNumber q_628 (C_X4_takeNumber G.2.2.1 a0 (0 : Int32) (99 : Int32) σ h5 ok_a0) ⟨(Nat.le_of_ble_eq_true rfl), (Nat.le_of_ble_eq_true rfl)⟩ G w k_a0.1 k_a0.2 rfl rfl hl.1 (Nat.le_of_ble_eq_true rfl) (dcs_get dec_X4_parseRow_0 29 rfl) ⟨Nat.le_refl _, Nat.le_refl _⟩) G w (fun H locs w => ?_)
        obtain ⟨h8, hf⟩ := cG_some hf
        obtain ⟨σ9, e_σ9, hf⟩ := cL_some hf
        refine r_iast G w k_z4.1 k_z4.2 h8 (dcs_get dec_X4_parseRow_0 30 rfl) (fun H locs w => ?_)
        have w := Wd.nm e_σ9 w
        refine lv_aload_n G.hx G.hb (dcs_get dec_X4_parseRow_0 31 rfl) rfl (lv_at hl 1 rfl) ?_
        refine lv_iload_n G.hx G.hb (dcs_get dec_X4_parseRow_0 32 rfl) rfl (lv_at hl 2 rfl) ?_
        refine lv_iconst (v := (1 : Int32)) G.hx G.hb (dcs_get dec_X4_parseRow_0 33 rfl) (by decide) ?_
        refine lv_iadd G.hx G.hb (dcs_get dec_X4_parseRow_0 34 rfl) ?_
        obtain ⟨σ10, e_σ10, hf⟩ := cL_some hf
        refine r_putiN (k := 1) cls5 ct5 fi_5_1.1 fi_5_1.2 fp_5_1.1 fp_5_1.2 nf_84 rfl rfl G w k_a2.1 k_a2.2 (dcs_get dec_X4_parseRow_0 35 rfl) (fun H locs w => ?_)
        have w := Wd.nm e_σ10 w
        exact B_X4_parseRow_61 a0 a2 l3 σ10 G hm ok_a0 ok_a2 hf hb0 hr w (lv_sub hl [0, 1, 2] rfl)
      · rw [if_pos hc] at hf
        refine lv_aload_n G.hx G.hb (dcs_get dec_X4_parseRow_0 19 rfl) rfl (lv_at hl 0 rfl) ?_
        refine lv_iconst (v := (2 : Int32)) G.hx G.hb (dcs_get dec_X4_parseRow_0 20 rfl) (by decide) ?_
        obtain ⟨σ12, h11, hf⟩ := cB_some hf
        refine a_v (k_V (As := [.int (2 : Int32)]) (rest := []) cls4 lb_X4_fail lv_X4_fail q_609 (C_X4_fail G.2.2.1 a0 (2 : Int32) σ h11 ok_a0) ⟨(Nat.le_of_ble_eq_true rfl), (Nat.le_of_ble_eq_true rfl)⟩ G w k_a0.1 k_a0.2 rfl rfl hl.1 (Nat.le_of_ble_eq_true rfl) (dcs_get dec_X4_parseRow_0 21 rfl) ⟨Nat.le_refl _, Nat.le_refl _⟩) G w (fun H locs w => ?_)
        refine lv_goto (tgt := 61) G.hx G.hb (dcs_get dec_X4_parseRow_0 22 rfl) (by decide) ?_
        exact B_X4_parseRow_61 a0 a2 l3 σ12 G hm ok_a0 ok_a2 hf hb0 hr w (lv_sub hl [0, 1, 2] rfl)
set_option maxRecDepth 100000 in
set_option maxHeartbeats 4000000 in
theorem H_X4_parseRow_13 {σ0 : hSt} (a0 : Nat) (a2 : Nat) (G : Gx p m c cX4_parseRow 4 s args RX4 D ay NC ad (aN NC ad)) (hm : meth.sig.returnType = none ∧ meth.locks = false) (ok_a0 : okr kC NC 4 a0 = true) (ok_a2 : okr kC NC 5 a2 = true)  : ∀ (k : Nat) (v : Int32 × hSt), lp (S_X4_parseRow_13 a0 a2) k v = some σ0 → ∀ (H : Heap) (locs : List Loc) (ls : Array Slot), Wd D ay kC NC ad (aN NC ad) s v.2 H locs → lv_has ls 4 [(0, .ref (ad a0)), (2, .ref (ad a2)), (3, .int v.1)] → W p l e (rmK 2 45) s m args below meth c H locs 0 0 (MQ below (cV D ay kC NC ad σ0) args s 0 0 (aN NC ad)) (F0 m 13 ls []) := by
  intro k
  induction k with
  | zero => intro v hf; cases hf
  | succ k ih =>
    intro v hf H locs ls w hl
    obtain ⟨o1, h1, h2, h3⟩ := lp_some hf
    exact B_X4_parseRow_13b a0 a2 v.1 v.2 G hm ok_a0 ok_a2 h1  (fun v' e => ih v' (h2 v' e)) (fun x e => h3 x e) w hl
set_option maxRecDepth 100000 in
set_option maxHeartbeats 4000000 in
theorem B_X4_parseRow_13 {H : Heap} {locs : List Loc} {ls : Array Slot} {σ0 : hSt} (a0 : Nat) (a2 : Nat) (l3 : Int32) (σ : hSt) (G : Gx p m c cX4_parseRow 4 s args RX4 D ay NC ad (aN NC ad)) (hm : meth.sig.returnType = none ∧ meth.locks = false) (ok_a0 : okr kC NC 4 a0 = true) (ok_a2 : okr kC NC 5 a2 = true) (hf : F_X4_parseRow_13 a0 a2 l3 σ = some σ0)  (w : Wd D ay kC NC ad (aN NC ad) s σ H locs) (hl : lv_has ls 4 [(0, .ref (ad a0)), (2, .ref (ad a2)), (3, .int l3)]) : W p l e (rmK 2 45) s m args below meth c H locs 0 0 (MQ below (cV D ay kC NC ad σ0) args s 0 0 (aN NC ad)) (F0 m 13 ls []) := by
  unfold F_X4_parseRow_13 at hf
  exact H_X4_parseRow_13 a0 a2  G hm ok_a0 ok_a2  fuel (l3, σ) hf _ _ _ w hl
set_option maxRecDepth 100000 in
set_option maxHeartbeats 4000000 in
theorem B_X4_parseRow_0 {H : Heap} {locs : List Loc} {ls : Array Slot} {σ0 : hSt} (a0 : Nat) (l1 : Int32) (a2 : Nat) (σ : hSt) (G : Gx p m c cX4_parseRow 4 s args RX4 D ay NC ad (aN NC ad)) (hm : meth.sig.returnType = none ∧ meth.locks = false) (ok_a0 : okr kC NC 4 a0 = true) (ok_a2 : okr kC NC 5 a2 = true) (hf : F_X4_parseRow a0 l1 a2 σ = some σ0)  (w : Wd D ay kC NC ad (aN NC ad) s σ H locs) (hl : lv_has ls 4 [(0, .ref (ad a0)), (1, .int l1), (2, .ref (ad a2))]) : W p l e (rmK 2 45) s m args below meth c H locs 0 0 (MQ below (cV D ay kC NC ad σ0) args s 0 0 (aN NC ad)) (F0 m 0 ls []) := by
  have k_a0 := okr_in ok_a0
  have k_a2 := okr_in ok_a2
  unfold F_X4_parseRow at hf
  refine lv_aload_n G.hx G.hb (dcs_get dec_X4_parseRow_0 0 rfl) rfl (lv_at hl 0 rfl) ?_
  refine lv_iload_n G.hx G.hb (dcs_get dec_X4_parseRow_0 1 rfl) rfl (lv_at hl 1 rfl) ?_
  obtain ⟨v14, σ15, h13, hf⟩ := cC_some hf
  refine a_l (k_V (As := [.int l1]) (rest := []) cls4 lb_X4_take lv_X4_take q_613 (C_X4_take G.2.2.1 a0 l1 σ h13 ok_a0) ⟨(Nat.le_of_ble_eq_true rfl), (Nat.le_of_ble_eq_true rfl)⟩ G w k_a0.1 k_a0.2 rfl rfl hl.1 (Nat.le_of_ble_eq_true rfl) (dcs_get dec_X4_parseRow_0 2 rfl) ⟨Nat.le_refl _, Nat.le_refl _⟩) G w (fun H locs w => ?_)
  refine lv_pop2_2 G.hx G.hb (dcs_get dec_X4_parseRow_0 3 rfl) rfl ?_
  refine lv_aload_n G.hx G.hb (dcs_get dec_X4_parseRow_0 4 rfl) rfl (lv_at hl 2 rfl) ?_
  refine lv_iconst (v := (0 : Int32)) G.hx G.hb (dcs_get dec_X4_parseRow_0 5 rfl) (by decide) ?_
  obtain ⟨σ16, e_σ16, hf⟩ := cL_some hf
  refine r_putiN (k := 1) cls5 ct5 fi_5_1.1 fi_5_1.2 fp_5_1.1 fp_5_1.2 nf_84 rfl rfl G w k_a2.1 k_a2.2 (dcs_get dec_X4_parseRow_0 6 rfl) (fun H locs w => ?_)
  have w := Wd.nm e_σ16 w
  refine lv_iconst (v := (0 : Int32)) G.hx G.hb (dcs_get dec_X4_parseRow_0 7 rfl) (by decide) ?_
  refine lv_istore_n (lv' := [(3, .int (0 : Int32)), (0, .ref (ad a0)), (1, .int l1), (2, .ref (ad a2))]) G.hx G.hb (dcs_get dec_X4_parseRow_0 8 rfl) rfl hl (by decide) rfl (fun ls hl => ?_)
  exact B_X4_parseRow_13 a0 a2 (0 : Int32) σ16 G hm ok_a0 ok_a2 hf  w (lv_sub hl [1, 3, 0] rfl)
end
set_option maxRecDepth 100000 in
set_option maxHeartbeats 4000000 in
theorem C_X4_parseRow {l : Launch} {D : va_G} {ay : Nat → ClassId} {ad : Nat → Nat} (hi : hInj NC ad) (a0 : Nat) (l1 : Int32) (a2 : Nat) (σ : hSt) {σ0 : hSt} (hf : F_X4_parseRow a0 l1 a2 σ = some σ0) (ok_a0 : okr kC NC 4 a0 = true) (ok_a2 : okr kC NC 5 a2 = true) : hM l D ay kC NC ad yX4_parseRow cX4_parseRow 4 (none) (rmK 2 45) [.ref (ad a0), .int l1, .ref (ad a2)] σ (cV D ay kC NC ad σ0) := by
  refine hM_in (by decide) hi (Nat.le_of_ble_eq_true rfl) ?_
  intro p e s m below meth c G hm w ls hl
  exact B_X4_parseRow_0 a0 l1 a2 σ G hm ok_a0 ok_a2 hf w (lv_sub hl [0, 1, 2] rfl)

/-! HillDrums.Reader.parseOrder()V -/
def DL_X4_parseOrder_0 : List (Nat × Instr × Nat) := [(0, .aload_n 0, 1), (1, .sipush 135, 3), (4, .invokevirtual 71, 3), (7, .pop2, 1), (8, .aload_n 0, 1), (9, .invokevirtual 54, 3), (12, .istore_n 1, 1), (13, .iload_n 1, 1), (14, .sipush 136, 3), (17, .if_icmp .lt 10, 3), (20, .iload_n 1, 1), (21, .sipush 139, 3), (24, .if_icmp .le 9, 3), (27, .aload_n 0, 1), (28, .iconst 1, 1), (29, .invokevirtual 121, 3), (32, .return_, 1), (33, .aload_n 0, 1), (34, .iload_n 1, 1), (35, .invokevirtual 71, 3), (38, .pop2, 1), (39, .aload_n 0, 1), (40, .getfield 41, 3), (43, .iload_n 1, 1), (44, .sipush 136, 3), (47, .isub, 1), (48, .putfield 153, 3), (51, .return_, 1)]
set_option maxRecDepth 100000 in
theorem dec_X4_parseOrder_0 : dcs cX4_parseOrder DL_X4_parseOrder_0 = true := by decide +kernel
theorem lb_X4_parseOrder : lkB yX4_parseOrder cX4_parseOrder 2 (none) 0 := ⟨q_669, q_6, ⟨by decide, by decide⟩, by decide +kernel⟩
theorem lv_X4_parseOrder : lkV yX4_parseOrder := ⟨q_668, qs_28⟩
def F_X4_parseOrder_27 (a0 : Nat) (σ : hSt) : Option (hSt) :=
(F_X4_fail a0 (1 : Int32) σ).bind fun σ2 =>
some (σ2)
def F_X4_parseOrder (a0 : Nat) (σ : hSt) : Option (hSt) :=
cC (F_X4_take a0 (135 : Int32) σ) fun v4 σ5 =>
(F_X4_kind a0 σ5).bind fun v7 =>
if v7 < (136 : Int32) then (
F_X4_parseOrder_27 a0 σ5) else (
if v7 ≤ (139 : Int32) then (
cC (F_X4_take a0 v7 σ5) fun v9 σ10 =>
cR (σ10.2.2 a0 3) (okr kC NC 7) fun z11 =>
cL (uI σ10 z11 8 (v7 - (136 : Int32))) fun σ12 =>
some (σ12)) else (
F_X4_parseOrder_27 a0 σ5))
section
variable {p : Program} {l : Launch} {e : Env} {s : State} {m : MethodId} {args : Array Value} {below : List Frame} {meth : Method} {c : Code} {D : va_G} {ay : Nat → ClassId} {ad : Nat → Nat}
set_option maxRecDepth 100000 in
set_option maxHeartbeats 4000000 in
theorem B_X4_parseOrder_27 {H : Heap} {locs : List Loc} {ls : Array Slot} {σ0 : hSt} (a0 : Nat) (σ : hSt) (G : Gx p m c cX4_parseOrder 2 s args RX4 D ay NC ad (aN NC ad)) (hm : meth.sig.returnType = none ∧ meth.locks = false) (ok_a0 : okr kC NC 4 a0 = true) (hf : F_X4_parseOrder_27 a0 σ = some σ0)  (w : Wd D ay kC NC ad (aN NC ad) s σ H locs) (hl : lv_has ls 2 [(0, .ref (ad a0))]) : W p l e (rmK 1 22) s m args below meth c H locs 0 0 (MQ below (cV D ay kC NC ad σ0) args s 0 0 (aN NC ad)) (F0 m 27 ls []) := by
  have k_a0 := okr_in ok_a0
  unfold F_X4_parseOrder_27 at hf
  refine lv_aload_n G.hx G.hb (dcs_get dec_X4_parseOrder_0 13 rfl) rfl (lv_at hl 0 rfl) ?_
  refine lv_iconst (v := (1 : Int32)) G.hx G.hb (dcs_get dec_X4_parseOrder_0 14 rfl) (by decide) ?_
  obtain ⟨σ2, h1, hf⟩ := cB_some hf
  refine a_v (k_V (As := [.int (1 : Int32)]) (rest := []) cls4 lb_X4_fail lv_X4_fail q_609 (C_X4_fail G.2.2.1 a0 (1 : Int32) σ h1 ok_a0) ⟨(Nat.le_of_ble_eq_true rfl), (Nat.le_of_ble_eq_true rfl)⟩ G w k_a0.1 k_a0.2 rfl rfl hl.1 (Nat.le_of_ble_eq_true rfl) (dcs_get dec_X4_parseOrder_0 15 rfl) ⟨Nat.le_refl _, Nat.le_refl _⟩) G w (fun H locs w => ?_)
  have e9 := Option.some.inj hf
  exact r_vret G w hm e9 (dcs_get dec_X4_parseOrder_0 16 rfl)
set_option maxRecDepth 100000 in
set_option maxHeartbeats 4000000 in
theorem B_X4_parseOrder_0 {H : Heap} {locs : List Loc} {ls : Array Slot} {σ0 : hSt} (a0 : Nat) (σ : hSt) (G : Gx p m c cX4_parseOrder 2 s args RX4 D ay NC ad (aN NC ad)) (hm : meth.sig.returnType = none ∧ meth.locks = false) (ok_a0 : okr kC NC 4 a0 = true) (hf : F_X4_parseOrder a0 σ = some σ0)  (w : Wd D ay kC NC ad (aN NC ad) s σ H locs) (hl : lv_has ls 2 [(0, .ref (ad a0))]) : W p l e (rmK 1 22) s m args below meth c H locs 0 0 (MQ below (cV D ay kC NC ad σ0) args s 0 0 (aN NC ad)) (F0 m 0 ls []) := by
  have k_a0 := okr_in ok_a0
  unfold F_X4_parseOrder at hf
  refine lv_aload_n G.hx G.hb (dcs_get dec_X4_parseOrder_0 0 rfl) rfl (lv_at hl 0 rfl) ?_
  refine lv_sipush (v := (135 : Int32)) G.hx G.hb (dcs_get dec_X4_parseOrder_0 1 rfl) (by decide) ?_
  obtain ⟨v4, σ5, h3, hf⟩ := cC_some hf
  refine a_l (k_V (As := [.int (135 : Int32)]) (rest := []) cls4 lb_X4_take lv_X4_take q_613 (C_X4_take G.2.2.1 a0 (135 : Int32) σ h3 ok_a0) ⟨(Nat.le_of_ble_eq_true rfl), (Nat.le_of_ble_eq_true rfl)⟩ G w k_a0.1 k_a0.2 rfl rfl hl.1 (Nat.le_of_ble_eq_true rfl) (dcs_get dec_X4_parseOrder_0 2 rfl) ⟨Nat.le_refl _, Nat.le_refl _⟩) G w (fun H locs w => ?_)
  refine lv_pop2_2 G.hx G.hb (dcs_get dec_X4_parseOrder_0 3 rfl) rfl ?_
  refine lv_aload_n G.hx G.hb (dcs_get dec_X4_parseOrder_0 4 rfl) rfl (lv_at hl 0 rfl) ?_
  obtain ⟨v7, h6, hf⟩ := cB_some hf
  refine a_i (k_V (As := []) (rest := []) cls4 lb_X4_kind lv_X4_kind q_597 (C_X4_kind G.2.2.1 a0 σ5 h6 ok_a0) ⟨(Nat.le_of_ble_eq_true rfl), (Nat.le_of_ble_eq_true rfl)⟩ G w k_a0.1 k_a0.2 rfl rfl hl.1 (Nat.le_of_ble_eq_true rfl) (dcs_get dec_X4_parseOrder_0 5 rfl) ⟨Nat.le_refl _, Nat.le_refl _⟩) G w (fun H locs w => ?_)
  refine lv_istore_n (lv' := [(1, .int v7), (0, .ref (ad a0))]) G.hx G.hb (dcs_get dec_X4_parseOrder_0 6 rfl) rfl hl (by decide) rfl (fun ls hl => ?_)
  refine lv_iload_n G.hx G.hb (dcs_get dec_X4_parseOrder_0 7 rfl) rfl (lv_at hl 0 rfl) ?_
  refine lv_sipush (v := (136 : Int32)) G.hx G.hb (dcs_get dec_X4_parseOrder_0 8 rfl) (by decide) ?_
  refine lv_icmp_lt (tgt := 27) G.hx G.hb (dcs_get dec_X4_parseOrder_0 9 rfl) (by decide) (fun hc => ?_) (fun hc => ?_)
  · rw [if_pos hc] at hf
    exact B_X4_parseOrder_27 a0 σ5 G hm ok_a0 hf  w (lv_sub hl [1] rfl)
  · rw [if_neg hc] at hf
    refine lv_iload_n G.hx G.hb (dcs_get dec_X4_parseOrder_0 10 rfl) rfl (lv_at hl 0 rfl) ?_
    refine lv_sipush (v := (139 : Int32)) G.hx G.hb (dcs_get dec_X4_parseOrder_0 11 rfl) (by decide) ?_
    refine lv_icmp_le (tgt := 33) G.hx G.hb (dcs_get dec_X4_parseOrder_0 12 rfl) (by decide) (fun hc => ?_) (fun hc => ?_)
    · rw [if_pos hc] at hf
      refine lv_aload_n G.hx G.hb (dcs_get dec_X4_parseOrder_0 17 rfl) rfl (lv_at hl 1 rfl) ?_
      refine lv_iload_n G.hx G.hb (dcs_get dec_X4_parseOrder_0 18 rfl) rfl (lv_at hl 0 rfl) ?_
      obtain ⟨v9, σ10, h8, hf⟩ := cC_some hf
      refine a_l (k_V (As := [.int v7]) (rest := []) cls4 lb_X4_take lv_X4_take q_613 (C_X4_take G.2.2.1 a0 v7 σ5 h8 ok_a0) ⟨(Nat.le_of_ble_eq_true rfl), (Nat.le_of_ble_eq_true rfl)⟩ G w k_a0.1 k_a0.2 rfl rfl hl.1 (Nat.le_of_ble_eq_true rfl) (dcs_get dec_X4_parseOrder_0 19 rfl) ⟨Nat.le_refl _, Nat.le_refl _⟩) G w (fun H locs w => ?_)
      refine lv_pop2_2 G.hx G.hb (dcs_get dec_X4_parseOrder_0 20 rfl) rfl ?_
      refine lv_aload_n G.hx G.hb (dcs_get dec_X4_parseOrder_0 21 rfl) rfl (lv_at hl 1 rfl) ?_
      obtain ⟨z11, e_z11, ok_z11, hf⟩ := cR_some hf
      have k_z11 := okr_in ok_z11
      refine r_getr (k := 3) cls4 fi_4_3.1 fi_4_3.2 q_200 G w k_a0.1 k_a0.2 e_z11 (dcs_get dec_X4_parseOrder_0 22 rfl) ?_
      refine lv_iload_n G.hx G.hb (dcs_get dec_X4_parseOrder_0 23 rfl) rfl (lv_at hl 0 rfl) ?_
      refine lv_sipush (v := (136 : Int32)) G.hx G.hb (dcs_get dec_X4_parseOrder_0 24 rfl) (by decide) ?_
      refine lv_isub G.hx G.hb (dcs_get dec_X4_parseOrder_0 25 rfl) ?_
      obtain ⟨σ12, e_σ12, hf⟩ := cL_some hf
      refine r_putiN (k := 8) cls7 ct7 fi_7_8.1 fi_7_8.2 fp_7_8.1 fp_7_8.2 nf_121 rfl rfl G w k_z11.1 k_z11.2 (dcs_get dec_X4_parseOrder_0 26 rfl) (fun H locs w => ?_)
      have w := Wd.nm e_σ12 w
      have e9 := Option.some.inj hf
      exact r_vret G w hm e9 (dcs_get dec_X4_parseOrder_0 27 rfl)
    · rw [if_neg hc] at hf
      exact B_X4_parseOrder_27 a0 σ5 G hm ok_a0 hf  w (lv_sub hl [1] rfl)
end
set_option maxRecDepth 100000 in
set_option maxHeartbeats 4000000 in
theorem C_X4_parseOrder {l : Launch} {D : va_G} {ay : Nat → ClassId} {ad : Nat → Nat} (hi : hInj NC ad) (a0 : Nat) (σ : hSt) {σ0 : hSt} (hf : F_X4_parseOrder a0 σ = some σ0) (ok_a0 : okr kC NC 4 a0 = true) : hM l D ay kC NC ad yX4_parseOrder cX4_parseOrder 2 (none) (rmK 1 22) [.ref (ad a0)] σ (cV D ay kC NC ad σ0) := by
  refine hM_in (by decide) hi (Nat.le_of_ble_eq_true rfl) ?_
  intro p e s m below meth c G hm w ls hl
  exact B_X4_parseOrder_0 a0 σ G hm ok_a0 hf w (lv_sub hl [0] rfl)

/-! HillDrums.Reader.parseSleeper()V -/
def DL_X4_parseSleeper_0 : List (Nat × Instr × Nat) := [(0, .aload_n 0, 1), (1, .getfield 41, 3), (4, .getfield 156, 3), (7, .istore_n 1, 1), (8, .iload_n 1, 1), (9, .iconst 4, 1), (10, .if_icmp .lt 9, 3), (13, .aload_n 0, 1), (14, .iconst 2, 1), (15, .invokevirtual 121, 3), (18, .return_, 1), (19, .aload_n 0, 1), (20, .sipush 140, 3), (23, .invokevirtual 71, 3), (26, .pop2, 1), (27, .aload_n 0, 1), (28, .getfield 41, 3), (31, .getfield 159, 3), (34, .iload_n 1, 1), (35, .aload_n 0, 1), (36, .aload_n 0, 1), (37, .getfield 18, 3), (40, .aload_n 0, 1), (41, .getfield 41, 3), (44, .getfield 79, 3), (47, .invokevirtual 141, 3), (50, .iastore, 1), (51, .aload_n 0, 1), (52, .getfield 41, 3), (55, .getfield 162, 3), (58, .iload_n 1, 1), (59, .aload_n 0, 1), (60, .aload_n 0, 1), (61, .getfield 22, 3), (64, .aload_n 0, 1), (65, .getfield 41, 3), (68, .getfield 86, 3), (71, .invokevirtual 141, 3), (74, .iastore, 1), (75, .aload_n 0, 1)]
set_option maxRecDepth 100000 in
theorem dec_X4_parseSleeper_0 : dcs cX4_parseSleeper DL_X4_parseSleeper_0 = true := by decide +kernel
def DL_X4_parseSleeper_1 : List (Nat × Instr × Nat) := [(76, .getfield 41, 3), (79, .getfield 165, 3), (82, .iload_n 1, 1), (83, .aload_n 0, 1), (84, .iconst 1, 1), (85, .bipush 9, 2), (87, .invokevirtual 132, 3), (90, .iastore, 1), (91, .aload_n 0, 1), (92, .getfield 41, 3), (95, .iload_n 1, 1), (96, .iconst 1, 1), (97, .iadd, 1), (98, .putfield 156, 3), (101, .return_, 1)]
set_option maxRecDepth 100000 in
theorem dec_X4_parseSleeper_1 : dcs cX4_parseSleeper DL_X4_parseSleeper_1 = true := by decide +kernel
theorem lb_X4_parseSleeper : lkB yX4_parseSleeper cX4_parseSleeper 2 (none) 0 := ⟨q_673, q_6, ⟨by decide, by decide⟩, by decide +kernel⟩
theorem lv_X4_parseSleeper : lkV yX4_parseSleeper := ⟨q_672, qs_29⟩
def F_X4_parseSleeper (a0 : Nat) (σ : hSt) : Option (hSt) :=
cR (σ.2.2 a0 3) (okr kC NC 7) fun z1 =>
cL (σ.1 z1 9) fun v2 =>
if v2 < (4 : Int32) then (
cC (F_X4_take a0 (140 : Int32) σ) fun v4 σ5 =>
cR (σ5.2.2 a0 3) (okr kC NC 7) fun z6 =>
cR (σ5.2.2 z6 10) (okr kC NC 101) fun z7 =>
cR (σ5.2.2 a0 1) (okr kC NC 103) fun z8 =>
cR (σ5.2.2 a0 3) (okr kC NC 7) fun z9 =>
cC (F_X4_takeOneOf a0 z8 (σ5.1 z9 0) σ5) fun v11 σ12 =>
cG (inb v2 (kC z7).2) <|
cL (uI σ12 z7 v2.toNatClampNeg v11) fun σ14 =>
cR (σ14.2.2 a0 3) (okr kC NC 7) fun z15 =>
cR (σ14.2.2 z15 11) (okr kC NC 101) fun z16 =>
cR (σ14.2.2 a0 2) (okr kC NC 103) fun z17 =>
cR (σ14.2.2 a0 3) (okr kC NC 7) fun z18 =>
cC (F_X4_takeOneOf a0 z17 (σ14.1 z18 3) σ14) fun v20 σ21 =>
cG (inb v2 (kC z16).2) <|
cL (uI σ21 z16 v2.toNatClampNeg v20) fun σ23 =>
cR (σ23.2.2 a0 3) (okr kC NC 7) fun z24 =>
cR (σ23.2.2 z24 12) (okr kC NC 101) fun z25 =>
cC (F_X4_takeNumber a0 (1 : Int32) (9 : Int32) σ23) fun v27 σ28 =>
cG (inb v2 (kC z25).2) <|
cL (uI σ28 z25 v2.toNatClampNeg v27) fun σ30 =>
cR (σ30.2.2 a0 3) (okr kC NC 7) fun z31 =>
cL (uI σ30 z31 9 (v2 + (1 : Int32))) fun σ32 =>
some (σ32)) else (
(F_X4_fail a0 (2 : Int32) σ).bind fun σ34 =>
some (σ34))
section
variable {p : Program} {l : Launch} {e : Env} {s : State} {m : MethodId} {args : Array Value} {below : List Frame} {meth : Method} {c : Code} {D : va_G} {ay : Nat → ClassId} {ad : Nat → Nat}
set_option maxRecDepth 100000 in
set_option maxHeartbeats 4000000 in
theorem B_X4_parseSleeper_0 {H : Heap} {locs : List Loc} {ls : Array Slot} {σ0 : hSt} (a0 : Nat) (σ : hSt) (G : Gx p m c cX4_parseSleeper 2 s args RX4 D ay NC ad (aN NC ad)) (hm : meth.sig.returnType = none ∧ meth.locks = false) (ok_a0 : okr kC NC 4 a0 = true) (hf : F_X4_parseSleeper a0 σ = some σ0)  (w : Wd D ay kC NC ad (aN NC ad) s σ H locs) (hl : lv_has ls 2 [(0, .ref (ad a0))]) : W p l e (rmK 2 47) s m args below meth c H locs 0 0 (MQ below (cV D ay kC NC ad σ0) args s 0 0 (aN NC ad)) (F0 m 0 ls []) := by
  have k_a0 := okr_in ok_a0
  unfold F_X4_parseSleeper at hf
  refine lv_aload_n G.hx G.hb (dcs_get dec_X4_parseSleeper_0 0 rfl) rfl (lv_at hl 0 rfl) ?_
  obtain ⟨z1, e_z1, ok_z1, hf⟩ := cR_some hf
  have k_z1 := okr_in ok_z1
  refine r_getr (k := 3) cls4 fi_4_3.1 fi_4_3.2 q_200 G w k_a0.1 k_a0.2 e_z1 (dcs_get dec_X4_parseSleeper_0 1 rfl) ?_
  refine r_getiN (k := 9) cls7 fi_7_9.1 fi_7_9.2 nf_124 G w k_z1.1 k_z1.2 (dcs_get dec_X4_parseSleeper_0 2 rfl) ?_
  obtain ⟨v2, e_v2, hf⟩ := cL_some hf
  refine r_topi e_v2 ?_
  refine lv_istore_n (lv' := [(1, .int v2), (0, .ref (ad a0))]) G.hx G.hb (dcs_get dec_X4_parseSleeper_0 3 rfl) rfl hl (by decide) rfl (fun ls hl => ?_)
  refine lv_iload_n G.hx G.hb (dcs_get dec_X4_parseSleeper_0 4 rfl) rfl (lv_at hl 0 rfl) ?_
  refine lv_iconst (v := (4 : Int32)) G.hx G.hb (dcs_get dec_X4_parseSleeper_0 5 rfl) (by decide) ?_
  refine lv_icmp_lt (tgt := 19) G.hx G.hb (dcs_get dec_X4_parseSleeper_0 6 rfl) (by decide) (fun hc => ?_) (fun hc => ?_)
  · rw [if_pos hc] at hf
    refine lv_aload_n G.hx G.hb (dcs_get dec_X4_parseSleeper_0 11 rfl) rfl (lv_at hl 1 rfl) ?_
    refine lv_sipush (v := (140 : Int32)) G.hx G.hb (dcs_get dec_X4_parseSleeper_0 12 rfl) (by decide) ?_
    obtain ⟨v4, σ5, h3, hf⟩ := cC_some hf
    refine a_l (k_V (As := [.int (140 : Int32)]) (rest := []) cls4 lb_X4_take lv_X4_take q_613 (C_X4_take G.2.2.1 a0 (140 : Int32) σ h3 ok_a0) ⟨(Nat.le_of_ble_eq_true rfl), (Nat.le_of_ble_eq_true rfl)⟩ G w k_a0.1 k_a0.2 rfl rfl hl.1 (Nat.le_of_ble_eq_true rfl) (dcs_get dec_X4_parseSleeper_0 13 rfl) ⟨Nat.le_refl _, Nat.le_refl _⟩) G w (fun H locs w => ?_)
    refine lv_pop2_2 G.hx G.hb (dcs_get dec_X4_parseSleeper_0 14 rfl) rfl ?_
    refine lv_aload_n G.hx G.hb (dcs_get dec_X4_parseSleeper_0 15 rfl) rfl (lv_at hl 1 rfl) ?_
    obtain ⟨z6, e_z6, ok_z6, hf⟩ := cR_some hf
    have k_z6 := okr_in ok_z6
    refine r_getr (k := 3) cls4 fi_4_3.1 fi_4_3.2 q_200 G w k_a0.1 k_a0.2 e_z6 (dcs_get dec_X4_parseSleeper_0 16 rfl) ?_
    obtain ⟨z7, e_z7, ok_z7, hf⟩ := cR_some hf
    have k_z7 := okr_in ok_z7
    refine r_getrN (k := 10) cls7 fi_7_10.1 fi_7_10.2 nf_128 G w k_z6.1 k_z6.2 e_z7 (dcs_get dec_X4_parseSleeper_0 17 rfl) ?_
    refine lv_iload_n G.hx G.hb (dcs_get dec_X4_parseSleeper_0 18 rfl) rfl (lv_at hl 0 rfl) ?_
    refine lv_aload_n G.hx G.hb (dcs_get dec_X4_parseSleeper_0 19 rfl) rfl (lv_at hl 1 rfl) ?_
    refine lv_aload_n G.hx G.hb (dcs_get dec_X4_parseSleeper_0 20 rfl) rfl (lv_at hl 1 rfl) ?_
    obtain ⟨z8, e_z8, ok_z8, hf⟩ := cR_some hf
    have k_z8 := okr_in ok_z8
    refine r_getr (k := 1) cls4 fi_4_1.1 fi_4_1.2 q_198 G w k_a0.1 k_a0.2 e_z8 (dcs_get dec_X4_parseSleeper_0 21 rfl) ?_
    refine lv_aload_n G.hx G.hb (dcs_get dec_X4_parseSleeper_0 22 rfl) rfl (lv_at hl 1 rfl) ?_
    obtain ⟨z9, e_z9, ok_z9, hf⟩ := cR_some hf
    have k_z9 := okr_in ok_z9
    refine r_getr (k := 3) cls4 fi_4_3.1 fi_4_3.2 q_200 G w k_a0.1 k_a0.2 e_z9 (dcs_get dec_X4_parseSleeper_0 23 rfl) ?_
    refine r_getiN (k := 0) cls7 fi_7_0.1 fi_7_0.2 nf_95 G w k_z9.1 k_z9.2 (dcs_get dec_X4_parseSleeper_0 24 rfl) ?_
    obtain ⟨v11, σ12, h10, hf⟩ := cC_some hf
    refine a_i (k_V (As := [.ref (ad z8), .int (σ5.1 z9 0)]) (rest := [.int v2, .ref (ad z7)]) cls4 lb_X4_takeOneOf lv_X4_takeOneOf q_636 (C_X4_takeOneOf G.2.2.1 a0 z8 (σ5.1 z9 0) σ5 h10 ok_a0 ok_z8) ⟨(Nat.le_of_ble_eq_true rfl), (Nat.le_of_ble_eq_true rfl)⟩ G w k_a0.1 k_a0.2 rfl rfl hl.1 (Nat.le_of_ble_eq_true rfl) (dcs_get dec_X4_parseSleeper_0 25 rfl) ⟨Nat.le_refl _, Nat.le_refl _⟩) G w (fun H locs w => ?_)
    obtain ⟨h13, hf⟩ := cG_some hf
    obtain ⟨σ14, e_σ14, hf⟩ := cL_some hf
    refine r_iast G w k_z7.1 k_z7.2 h13 (dcs_get dec_X4_parseSleeper_0 26 rfl) (fun H locs w => ?_)
    have w := Wd.nm e_σ14 w
    refine lv_aload_n G.hx G.hb (dcs_get dec_X4_parseSleeper_0 27 rfl) rfl (lv_at hl 1 rfl) ?_
    obtain ⟨z15, e_z15, ok_z15, hf⟩ := cR_some hf
    have k_z15 := okr_in ok_z15
    refine r_getr (k := 3) cls4 fi_4_3.1 fi_4_3.2 q_200 G w k_a0.1 k_a0.2 e_z15 (dcs_get dec_X4_parseSleeper_0 28 rfl) ?_
    obtain ⟨z16, e_z16, ok_z16, hf⟩ := cR_some hf
    have k_z16 := okr_in ok_z16
    refine r_getrN (k := 11) cls7 fi_7_11.1 fi_7_11.2 nf_131 G w k_z15.1 k_z15.2 e_z16 (dcs_get dec_X4_parseSleeper_0 29 rfl) ?_
    refine lv_iload_n G.hx G.hb (dcs_get dec_X4_parseSleeper_0 30 rfl) rfl (lv_at hl 0 rfl) ?_
    refine lv_aload_n G.hx G.hb (dcs_get dec_X4_parseSleeper_0 31 rfl) rfl (lv_at hl 1 rfl) ?_
    refine lv_aload_n G.hx G.hb (dcs_get dec_X4_parseSleeper_0 32 rfl) rfl (lv_at hl 1 rfl) ?_
    obtain ⟨z17, e_z17, ok_z17, hf⟩ := cR_some hf
    have k_z17 := okr_in ok_z17
    refine r_getr (k := 2) cls4 fi_4_2.1 fi_4_2.2 q_199 G w k_a0.1 k_a0.2 e_z17 (dcs_get dec_X4_parseSleeper_0 33 rfl) ?_
    refine lv_aload_n G.hx G.hb (dcs_get dec_X4_parseSleeper_0 34 rfl) rfl (lv_at hl 1 rfl) ?_
    obtain ⟨z18, e_z18, ok_z18, hf⟩ := cR_some hf
    have k_z18 := okr_in ok_z18
    refine r_getr (k := 3) cls4 fi_4_3.1 fi_4_3.2 q_200 G w k_a0.1 k_a0.2 e_z18 (dcs_get dec_X4_parseSleeper_0 35 rfl) ?_
    refine r_getiN (k := 3) cls7 fi_7_3.1 fi_7_3.2 nf_105 G w k_z18.1 k_z18.2 (dcs_get dec_X4_parseSleeper_0 36 rfl) ?_
    obtain ⟨v20, σ21, h19, hf⟩ := cC_some hf
    refine a_i (k_V (As := [.ref (ad z17), .int (σ14.1 z18 3)]) (rest := [.int v2, .ref (ad z16)]) cls4 lb_X4_takeOneOf lv_X4_takeOneOf q_636 (C_X4_takeOneOf G.2.2.1 a0 z17 (σ14.1 z18 3) σ14 h19 ok_a0 ok_z17) ⟨(Nat.le_of_ble_eq_true rfl), (Nat.le_of_ble_eq_true rfl)⟩ G w k_a0.1 k_a0.2 rfl rfl hl.1 (Nat.le_of_ble_eq_true rfl) (dcs_get dec_X4_parseSleeper_0 37 rfl) ⟨Nat.le_refl _, Nat.le_refl _⟩) G w (fun H locs w => ?_)
    obtain ⟨h22, hf⟩ := cG_some hf
    obtain ⟨σ23, e_σ23, hf⟩ := cL_some hf
    refine r_iast G w k_z16.1 k_z16.2 h22 (dcs_get dec_X4_parseSleeper_0 38 rfl) (fun H locs w => ?_)
    have w := Wd.nm e_σ23 w
    refine lv_aload_n G.hx G.hb (dcs_get dec_X4_parseSleeper_0 39 rfl) rfl (lv_at hl 1 rfl) ?_
    obtain ⟨z24, e_z24, ok_z24, hf⟩ := cR_some hf
    have k_z24 := okr_in ok_z24
    refine r_getr (k := 3) cls4 fi_4_3.1 fi_4_3.2 q_200 G w k_a0.1 k_a0.2 e_z24 (dcs_get dec_X4_parseSleeper_1 0 rfl) ?_
    obtain ⟨z25, e_z25, ok_z25, hf⟩ := cR_some hf
    have k_z25 := okr_in ok_z25
    refine r_getrN (k := 12) cls7 fi_7_12.1 fi_7_12.2 nf_134 G w k_z24.1 k_z24.2 e_z25 (dcs_get dec_X4_parseSleeper_1 1 rfl) ?_
    refine lv_iload_n G.hx G.hb (dcs_get dec_X4_parseSleeper_1 2 rfl) rfl (lv_at hl 0 rfl) ?_
    refine lv_aload_n G.hx G.hb (dcs_get dec_X4_parseSleeper_1 3 rfl) rfl (lv_at hl 1 rfl) ?_
    refine lv_iconst (v := (1 : Int32)) G.hx G.hb (dcs_get dec_X4_parseSleeper_1 4 rfl) (by decide) ?_
    refine lv_bipush (v := (9 : Int32)) G.hx G.hb (dcs_get dec_X4_parseSleeper_1 5 rfl) (by decide) ?_
    obtain ⟨v27, σ28, h26, hf⟩ := cC_some hf
    refine a_i (k_V (As := [.int (1 : Int32), .int (9 : Int32)]) (rest := [.int v2, .ref (ad z25)]) cls4 lb_X4_takeNumber lv_X4_takeNumber q_628 (C_X4_takeNumber G.2.2.1 a0 (1 : Int32) (9 : Int32) σ23 h26 ok_a0) ⟨(Nat.le_of_ble_eq_true rfl), (Nat.le_of_ble_eq_true rfl)⟩ G w k_a0.1 k_a0.2 rfl rfl hl.1 (Nat.le_of_ble_eq_true rfl) (dcs_get dec_X4_parseSleeper_1 6 rfl) ⟨Nat.le_refl _, Nat.le_refl _⟩) G w (fun H locs w => ?_)
    obtain ⟨h29, hf⟩ := cG_some hf
    obtain ⟨σ30, e_σ30, hf⟩ := cL_some hf
    refine r_iast G w k_z25.1 k_z25.2 h29 (dcs_get dec_X4_parseSleeper_1 7 rfl) (fun H locs w => ?_)
    have w := Wd.nm e_σ30 w
    refine lv_aload_n G.hx G.hb (dcs_get dec_X4_parseSleeper_1 8 rfl) rfl (lv_at hl 1 rfl) ?_
    obtain ⟨z31, e_z31, ok_z31, hf⟩ := cR_some hf
    have k_z31 := okr_in ok_z31
    refine r_getr (k := 3) cls4 fi_4_3.1 fi_4_3.2 q_200 G w k_a0.1 k_a0.2 e_z31 (dcs_get dec_X4_parseSleeper_1 9 rfl) ?_
    refine lv_iload_n G.hx G.hb (dcs_get dec_X4_parseSleeper_1 10 rfl) rfl (lv_at hl 0 rfl) ?_
    refine lv_iconst (v := (1 : Int32)) G.hx G.hb (dcs_get dec_X4_parseSleeper_1 11 rfl) (by decide) ?_
    refine lv_iadd G.hx G.hb (dcs_get dec_X4_parseSleeper_1 12 rfl) ?_
    obtain ⟨σ32, e_σ32, hf⟩ := cL_some hf
    refine r_putiN (k := 9) cls7 ct7 fi_7_9.1 fi_7_9.2 fp_7_9.1 fp_7_9.2 nf_124 rfl rfl G w k_z31.1 k_z31.2 (dcs_get dec_X4_parseSleeper_1 13 rfl) (fun H locs w => ?_)
    have w := Wd.nm e_σ32 w
    have e9 := Option.some.inj hf
    exact r_vret G w hm e9 (dcs_get dec_X4_parseSleeper_1 14 rfl)
  · rw [if_neg hc] at hf
    refine lv_aload_n G.hx G.hb (dcs_get dec_X4_parseSleeper_0 7 rfl) rfl (lv_at hl 1 rfl) ?_
    refine lv_iconst (v := (2 : Int32)) G.hx G.hb (dcs_get dec_X4_parseSleeper_0 8 rfl) (by decide) ?_
    obtain ⟨σ34, h33, hf⟩ := cB_some hf
    refine a_v (k_V (As := [.int (2 : Int32)]) (rest := []) cls4 lb_X4_fail lv_X4_fail q_609 (C_X4_fail G.2.2.1 a0 (2 : Int32) σ h33 ok_a0) ⟨(Nat.le_of_ble_eq_true rfl), (Nat.le_of_ble_eq_true rfl)⟩ G w k_a0.1 k_a0.2 rfl rfl hl.1 (Nat.le_of_ble_eq_true rfl) (dcs_get dec_X4_parseSleeper_0 9 rfl) ⟨Nat.le_refl _, Nat.le_refl _⟩) G w (fun H locs w => ?_)
    have e9 := Option.some.inj hf
    exact r_vret G w hm e9 (dcs_get dec_X4_parseSleeper_0 10 rfl)
end
set_option maxRecDepth 100000 in
set_option maxHeartbeats 4000000 in
theorem C_X4_parseSleeper {l : Launch} {D : va_G} {ay : Nat → ClassId} {ad : Nat → Nat} (hi : hInj NC ad) (a0 : Nat) (σ : hSt) {σ0 : hSt} (hf : F_X4_parseSleeper a0 σ = some σ0) (ok_a0 : okr kC NC 4 a0 = true) : hM l D ay kC NC ad yX4_parseSleeper cX4_parseSleeper 2 (none) (rmK 2 47) [.ref (ad a0)] σ (cV D ay kC NC ad σ0) := by
  refine hM_in (by decide) hi (Nat.le_of_ble_eq_true rfl) ?_
  intro p e s m below meth c G hm w ls hl
  exact B_X4_parseSleeper_0 a0 σ G hm ok_a0 hf w (lv_sub hl [0] rfl)

/-! HillDrums.Reader.parseTell()V -/
def DL_X4_parseTell_0 : List (Nat × Instr × Nat) := [(0, .aload_n 0, 1), (1, .invokevirtual 54, 3), (4, .tableswitch 149 128 143 #[80, 87, 149, 94, 149, 149, 149, 135, 149, 149, 149, 149, 142, 149, 101, 118], 80), (84, .aload_n 0, 1), (85, .invokevirtual 95, 3), (88, .goto 70, 3), (91, .aload_n 0, 1), (92, .invokevirtual 98, 3), (95, .goto 63, 3), (98, .aload_n 0, 1), (99, .invokevirtual 101, 3), (102, .goto 56, 3), (105, .aload_n 0, 1), (106, .sipush 142, 3), (109, .aload_n 0, 1), (110, .getfield 41, 3), (113, .getfield 104, 3), (116, .invokevirtual 108, 3), (119, .goto 39, 3), (122, .aload_n 0, 1), (123, .sipush 143, 3), (126, .aload_n 0, 1), (127, .getfield 41, 3), (130, .getfield 112, 3), (133, .invokevirtual 108, 3), (136, .goto 22, 3), (139, .aload_n 0, 1), (140, .invokevirtual 115, 3), (143, .goto 15, 3), (146, .aload_n 0, 1), (147, .invokevirtual 118, 3), (150, .goto 8, 3), (153, .aload_n 0, 1), (154, .iconst 1, 1), (155, .invokevirtual 121, 3), (158, .aload_n 0, 1), (159, .bipush 59, 2), (161, .invokevirtual 71, 3), (164, .pop2, 1), (165, .return_, 1)]
set_option maxRecDepth 100000 in
theorem dec_X4_parseTell_0 : dcs cX4_parseTell DL_X4_parseTell_0 = true := by decide +kernel
theorem lb_X4_parseTell : lkB yX4_parseTell cX4_parseTell 1 (none) 0 := ⟨q_604, q_6, ⟨by decide, by decide⟩, by decide +kernel⟩
theorem lv_X4_parseTell : lkV yX4_parseTell := ⟨q_603, qs_13⟩
def F_X4_parseTell_158 (a0 : Nat) (σ : hSt) : Option (hSt) :=
cC (F_X4_take a0 (59 : Int32) σ) fun v2 σ3 =>
some (σ3)
def F_X4_parseTell_153 (a0 : Nat) (σ : hSt) : Option (hSt) :=
(F_X4_fail a0 (1 : Int32) σ).bind fun σ5 =>
F_X4_parseTell_158 a0 σ5
def F_X4_parseTell (a0 : Nat) (σ : hSt) : Option (hSt) :=
(F_X4_kind a0 σ).bind fun v7 =>
if v7 = (128 : Int32) then (
(F_X4_parseHill a0 σ).bind fun σ9 =>
F_X4_parseTell_158 a0 σ9) else (
if v7 = (129 : Int32) then (
(F_X4_parseNews a0 σ).bind fun σ11 =>
F_X4_parseTell_158 a0 σ11) else (
if v7 = (130 : Int32) then (
F_X4_parseTell_153 a0 σ) else (
if v7 = (131 : Int32) then (
(F_X4_parseLaw a0 σ).bind fun σ13 =>
F_X4_parseTell_158 a0 σ13) else (
if v7 = (132 : Int32) then (
F_X4_parseTell_153 a0 σ) else (
if v7 = (133 : Int32) then (
F_X4_parseTell_153 a0 σ) else (
if v7 = (134 : Int32) then (
F_X4_parseTell_153 a0 σ) else (
if v7 = (135 : Int32) then (
(F_X4_parseOrder a0 σ).bind fun σ15 =>
F_X4_parseTell_158 a0 σ15) else (
if v7 = (136 : Int32) then (
F_X4_parseTell_153 a0 σ) else (
if v7 = (137 : Int32) then (
F_X4_parseTell_153 a0 σ) else (
if v7 = (138 : Int32) then (
F_X4_parseTell_153 a0 σ) else (
if v7 = (139 : Int32) then (
F_X4_parseTell_153 a0 σ) else (
if v7 = (140 : Int32) then (
(F_X4_parseSleeper a0 σ).bind fun σ17 =>
F_X4_parseTell_158 a0 σ17) else (
if v7 = (141 : Int32) then (
F_X4_parseTell_153 a0 σ) else (
if v7 = (142 : Int32) then (
cR (σ.2.2 a0 3) (okr kC NC 7) fun z18 =>
cR (σ.2.2 z18 6) (okr kC NC 5) fun z19 =>
(F_X4_parseRow a0 (142 : Int32) z19 σ).bind fun σ21 =>
F_X4_parseTell_158 a0 σ21) else (
if v7 = (143 : Int32) then (
cR (σ.2.2 a0 3) (okr kC NC 7) fun z22 =>
cR (σ.2.2 z22 7) (okr kC NC 5) fun z23 =>
(F_X4_parseRow a0 (143 : Int32) z23 σ).bind fun σ25 =>
F_X4_parseTell_158 a0 σ25) else (
F_X4_parseTell_153 a0 σ))))))))))))))))
section
variable {p : Program} {l : Launch} {e : Env} {s : State} {m : MethodId} {args : Array Value} {below : List Frame} {meth : Method} {c : Code} {D : va_G} {ay : Nat → ClassId} {ad : Nat → Nat}
set_option maxRecDepth 100000 in
set_option maxHeartbeats 4000000 in
theorem B_X4_parseTell_158 {H : Heap} {locs : List Loc} {ls : Array Slot} {σ0 : hSt} (a0 : Nat) (σ : hSt) (G : Gx p m c cX4_parseTell 1 s args RX4 D ay NC ad (aN NC ad)) (hm : meth.sig.returnType = none ∧ meth.locks = false) (ok_a0 : okr kC NC 4 a0 = true) (hf : F_X4_parseTell_158 a0 σ = some σ0)  (w : Wd D ay kC NC ad (aN NC ad) s σ H locs) (hl : lv_has ls 1 [(0, .ref (ad a0))]) : W p l e (rmK 98 2445) s m args below meth c H locs 0 0 (MQ below (cV D ay kC NC ad σ0) args s 0 0 (aN NC ad)) (F0 m 158 ls []) := by
  have k_a0 := okr_in ok_a0
  unfold F_X4_parseTell_158 at hf
  refine lv_aload_n G.hx G.hb (dcs_get dec_X4_parseTell_0 35 rfl) rfl (lv_at hl 0 rfl) ?_
  refine lv_bipush (v := (59 : Int32)) G.hx G.hb (dcs_get dec_X4_parseTell_0 36 rfl) (by decide) ?_
  obtain ⟨v2, σ3, h1, hf⟩ := cC_some hf
  refine a_l (k_V (As := [.int (59 : Int32)]) (rest := []) cls4 lb_X4_take lv_X4_take q_613 (C_X4_take G.2.2.1 a0 (59 : Int32) σ h1 ok_a0) ⟨(Nat.le_of_ble_eq_true rfl), (Nat.le_of_ble_eq_true rfl)⟩ G w k_a0.1 k_a0.2 rfl rfl hl.1 (Nat.le_of_ble_eq_true rfl) (dcs_get dec_X4_parseTell_0 37 rfl) ⟨Nat.le_refl _, Nat.le_refl _⟩) G w (fun H locs w => ?_)
  refine lv_pop2_2 G.hx G.hb (dcs_get dec_X4_parseTell_0 38 rfl) rfl ?_
  have e9 := Option.some.inj hf
  exact r_vret G w hm e9 (dcs_get dec_X4_parseTell_0 39 rfl)
set_option maxRecDepth 100000 in
set_option maxHeartbeats 4000000 in
theorem B_X4_parseTell_153 {H : Heap} {locs : List Loc} {ls : Array Slot} {σ0 : hSt} (a0 : Nat) (σ : hSt) (G : Gx p m c cX4_parseTell 1 s args RX4 D ay NC ad (aN NC ad)) (hm : meth.sig.returnType = none ∧ meth.locks = false) (ok_a0 : okr kC NC 4 a0 = true) (hf : F_X4_parseTell_153 a0 σ = some σ0)  (w : Wd D ay kC NC ad (aN NC ad) s σ H locs) (hl : lv_has ls 1 [(0, .ref (ad a0))]) : W p l e (rmK 98 2445) s m args below meth c H locs 0 0 (MQ below (cV D ay kC NC ad σ0) args s 0 0 (aN NC ad)) (F0 m 153 ls []) := by
  have k_a0 := okr_in ok_a0
  unfold F_X4_parseTell_153 at hf
  refine lv_aload_n G.hx G.hb (dcs_get dec_X4_parseTell_0 32 rfl) rfl (lv_at hl 0 rfl) ?_
  refine lv_iconst (v := (1 : Int32)) G.hx G.hb (dcs_get dec_X4_parseTell_0 33 rfl) (by decide) ?_
  obtain ⟨σ5, h4, hf⟩ := cB_some hf
  refine a_v (k_V (As := [.int (1 : Int32)]) (rest := []) cls4 lb_X4_fail lv_X4_fail q_609 (C_X4_fail G.2.2.1 a0 (1 : Int32) σ h4 ok_a0) ⟨(Nat.le_of_ble_eq_true rfl), (Nat.le_of_ble_eq_true rfl)⟩ G w k_a0.1 k_a0.2 rfl rfl hl.1 (Nat.le_of_ble_eq_true rfl) (dcs_get dec_X4_parseTell_0 34 rfl) ⟨Nat.le_refl _, Nat.le_refl _⟩) G w (fun H locs w => ?_)
  exact B_X4_parseTell_158 a0 σ5 G hm ok_a0 hf  w (lv_sub hl [0] rfl)
set_option maxRecDepth 100000 in
set_option maxHeartbeats 4000000 in
theorem B_X4_parseTell_0 {H : Heap} {locs : List Loc} {ls : Array Slot} {σ0 : hSt} (a0 : Nat) (σ : hSt) (G : Gx p m c cX4_parseTell 1 s args RX4 D ay NC ad (aN NC ad)) (hm : meth.sig.returnType = none ∧ meth.locks = false) (ok_a0 : okr kC NC 4 a0 = true) (hf : F_X4_parseTell a0 σ = some σ0)  (w : Wd D ay kC NC ad (aN NC ad) s σ H locs) (hl : lv_has ls 1 [(0, .ref (ad a0))]) : W p l e (rmK 98 2445) s m args below meth c H locs 0 0 (MQ below (cV D ay kC NC ad σ0) args s 0 0 (aN NC ad)) (F0 m 0 ls []) := by
  have k_a0 := okr_in ok_a0
  unfold F_X4_parseTell at hf
  refine lv_aload_n G.hx G.hb (dcs_get dec_X4_parseTell_0 0 rfl) rfl (lv_at hl 0 rfl) ?_
  obtain ⟨v7, h6, hf⟩ := cB_some hf
  refine a_i (k_V (As := []) (rest := []) cls4 lb_X4_kind lv_X4_kind q_597 (C_X4_kind G.2.2.1 a0 σ h6 ok_a0) ⟨(Nat.le_of_ble_eq_true rfl), (Nat.le_of_ble_eq_true rfl)⟩ G w k_a0.1 k_a0.2 rfl rfl hl.1 (Nat.le_of_ble_eq_true rfl) (dcs_get dec_X4_parseTell_0 1 rfl) ⟨Nat.le_refl _, Nat.le_refl _⟩) G w (fun H locs w => ?_)
  by_cases hc0 : v7 = (128 : Int32)
  · rw [if_pos hc0] at hf
    refine r_tIn (k := (128 : Int32)) (tgt := 84) G.hx G.hb (dcs_get dec_X4_parseTell_0 2 rfl) hc0 (by decide) rfl (by decide) ?_
    refine lv_aload_n G.hx G.hb (dcs_get dec_X4_parseTell_0 3 rfl) rfl (lv_at hl 0 rfl) ?_
    obtain ⟨σ9, h8, hf⟩ := cB_some hf
    refine a_v (k_V (As := []) (rest := []) cls4 lb_X4_parseHill lv_X4_parseHill q_605 (C_X4_parseHill G.2.2.1 a0 σ h8 ok_a0) ⟨(Nat.le_of_ble_eq_true rfl), (Nat.le_of_ble_eq_true rfl)⟩ G w k_a0.1 k_a0.2 rfl rfl hl.1 (Nat.le_of_ble_eq_true rfl) (dcs_get dec_X4_parseTell_0 4 rfl) ⟨Nat.le_refl _, Nat.le_refl _⟩) G w (fun H locs w => ?_)
    refine lv_goto (tgt := 158) G.hx G.hb (dcs_get dec_X4_parseTell_0 5 rfl) (by decide) ?_
    exact B_X4_parseTell_158 a0 σ9 G hm ok_a0 hf  w (lv_sub hl [0] rfl)
  rw [if_neg hc0] at hf
  by_cases hc1 : v7 = (129 : Int32)
  · rw [if_pos hc1] at hf
    refine r_tIn (k := (129 : Int32)) (tgt := 91) G.hx G.hb (dcs_get dec_X4_parseTell_0 2 rfl) hc1 (by decide) rfl (by decide) ?_
    refine lv_aload_n G.hx G.hb (dcs_get dec_X4_parseTell_0 6 rfl) rfl (lv_at hl 0 rfl) ?_
    obtain ⟨σ11, h10, hf⟩ := cB_some hf
    refine a_v (k_V (As := []) (rest := []) cls4 lb_X4_parseNews lv_X4_parseNews q_632 (C_X4_parseNews G.2.2.1 a0 σ h10 ok_a0) ⟨(Nat.le_of_ble_eq_true rfl), (Nat.le_of_ble_eq_true rfl)⟩ G w k_a0.1 k_a0.2 rfl rfl hl.1 (Nat.le_of_ble_eq_true rfl) (dcs_get dec_X4_parseTell_0 7 rfl) ⟨Nat.le_refl _, Nat.le_refl _⟩) G w (fun H locs w => ?_)
    refine lv_goto (tgt := 158) G.hx G.hb (dcs_get dec_X4_parseTell_0 8 rfl) (by decide) ?_
    exact B_X4_parseTell_158 a0 σ11 G hm ok_a0 hf  w (lv_sub hl [0] rfl)
  rw [if_neg hc1] at hf
  by_cases hc2 : v7 = (130 : Int32)
  · rw [if_pos hc2] at hf
    refine r_tIn (k := (130 : Int32)) (tgt := 153) G.hx G.hb (dcs_get dec_X4_parseTell_0 2 rfl) hc2 (by decide) rfl (by decide) ?_
    exact B_X4_parseTell_153 a0 σ G hm ok_a0 hf  w (lv_sub hl [0] rfl)
  rw [if_neg hc2] at hf
  by_cases hc3 : v7 = (131 : Int32)
  · rw [if_pos hc3] at hf
    refine r_tIn (k := (131 : Int32)) (tgt := 98) G.hx G.hb (dcs_get dec_X4_parseTell_0 2 rfl) hc3 (by decide) rfl (by decide) ?_
    refine lv_aload_n G.hx G.hb (dcs_get dec_X4_parseTell_0 9 rfl) rfl (lv_at hl 0 rfl) ?_
    obtain ⟨σ13, h12, hf⟩ := cB_some hf
    refine a_v (k_V (As := []) (rest := []) cls4 lb_X4_parseLaw lv_X4_parseLaw q_641 (C_X4_parseLaw G.2.2.1 a0 σ h12 ok_a0) ⟨(Nat.le_of_ble_eq_true rfl), (Nat.le_of_ble_eq_true rfl)⟩ G w k_a0.1 k_a0.2 rfl rfl hl.1 (Nat.le_of_ble_eq_true rfl) (dcs_get dec_X4_parseTell_0 10 rfl) ⟨Nat.le_refl _, Nat.le_refl _⟩) G w (fun H locs w => ?_)
    refine lv_goto (tgt := 158) G.hx G.hb (dcs_get dec_X4_parseTell_0 11 rfl) (by decide) ?_
    exact B_X4_parseTell_158 a0 σ13 G hm ok_a0 hf  w (lv_sub hl [0] rfl)
  rw [if_neg hc3] at hf
  by_cases hc4 : v7 = (132 : Int32)
  · rw [if_pos hc4] at hf
    refine r_tIn (k := (132 : Int32)) (tgt := 153) G.hx G.hb (dcs_get dec_X4_parseTell_0 2 rfl) hc4 (by decide) rfl (by decide) ?_
    exact B_X4_parseTell_153 a0 σ G hm ok_a0 hf  w (lv_sub hl [0] rfl)
  rw [if_neg hc4] at hf
  by_cases hc5 : v7 = (133 : Int32)
  · rw [if_pos hc5] at hf
    refine r_tIn (k := (133 : Int32)) (tgt := 153) G.hx G.hb (dcs_get dec_X4_parseTell_0 2 rfl) hc5 (by decide) rfl (by decide) ?_
    exact B_X4_parseTell_153 a0 σ G hm ok_a0 hf  w (lv_sub hl [0] rfl)
  rw [if_neg hc5] at hf
  by_cases hc6 : v7 = (134 : Int32)
  · rw [if_pos hc6] at hf
    refine r_tIn (k := (134 : Int32)) (tgt := 153) G.hx G.hb (dcs_get dec_X4_parseTell_0 2 rfl) hc6 (by decide) rfl (by decide) ?_
    exact B_X4_parseTell_153 a0 σ G hm ok_a0 hf  w (lv_sub hl [0] rfl)
  rw [if_neg hc6] at hf
  by_cases hc7 : v7 = (135 : Int32)
  · rw [if_pos hc7] at hf
    refine r_tIn (k := (135 : Int32)) (tgt := 139) G.hx G.hb (dcs_get dec_X4_parseTell_0 2 rfl) hc7 (by decide) rfl (by decide) ?_
    refine lv_aload_n G.hx G.hb (dcs_get dec_X4_parseTell_0 26 rfl) rfl (lv_at hl 0 rfl) ?_
    obtain ⟨σ15, h14, hf⟩ := cB_some hf
    refine a_v (k_V (As := []) (rest := []) cls4 lb_X4_parseOrder lv_X4_parseOrder q_666 (C_X4_parseOrder G.2.2.1 a0 σ h14 ok_a0) ⟨(Nat.le_of_ble_eq_true rfl), (Nat.le_of_ble_eq_true rfl)⟩ G w k_a0.1 k_a0.2 rfl rfl hl.1 (Nat.le_of_ble_eq_true rfl) (dcs_get dec_X4_parseTell_0 27 rfl) ⟨Nat.le_refl _, Nat.le_refl _⟩) G w (fun H locs w => ?_)
    refine lv_goto (tgt := 158) G.hx G.hb (dcs_get dec_X4_parseTell_0 28 rfl) (by decide) ?_
    exact B_X4_parseTell_158 a0 σ15 G hm ok_a0 hf  w (lv_sub hl [0] rfl)
  rw [if_neg hc7] at hf
  by_cases hc8 : v7 = (136 : Int32)
  · rw [if_pos hc8] at hf
    refine r_tIn (k := (136 : Int32)) (tgt := 153) G.hx G.hb (dcs_get dec_X4_parseTell_0 2 rfl) hc8 (by decide) rfl (by decide) ?_
    exact B_X4_parseTell_153 a0 σ G hm ok_a0 hf  w (lv_sub hl [0] rfl)
  rw [if_neg hc8] at hf
  by_cases hc9 : v7 = (137 : Int32)
  · rw [if_pos hc9] at hf
    refine r_tIn (k := (137 : Int32)) (tgt := 153) G.hx G.hb (dcs_get dec_X4_parseTell_0 2 rfl) hc9 (by decide) rfl (by decide) ?_
    exact B_X4_parseTell_153 a0 σ G hm ok_a0 hf  w (lv_sub hl [0] rfl)
  rw [if_neg hc9] at hf
  by_cases hc10 : v7 = (138 : Int32)
  · rw [if_pos hc10] at hf
    refine r_tIn (k := (138 : Int32)) (tgt := 153) G.hx G.hb (dcs_get dec_X4_parseTell_0 2 rfl) hc10 (by decide) rfl (by decide) ?_
    exact B_X4_parseTell_153 a0 σ G hm ok_a0 hf  w (lv_sub hl [0] rfl)
  rw [if_neg hc10] at hf
  by_cases hc11 : v7 = (139 : Int32)
  · rw [if_pos hc11] at hf
    refine r_tIn (k := (139 : Int32)) (tgt := 153) G.hx G.hb (dcs_get dec_X4_parseTell_0 2 rfl) hc11 (by decide) rfl (by decide) ?_
    exact B_X4_parseTell_153 a0 σ G hm ok_a0 hf  w (lv_sub hl [0] rfl)
  rw [if_neg hc11] at hf
  by_cases hc12 : v7 = (140 : Int32)
  · rw [if_pos hc12] at hf
    refine r_tIn (k := (140 : Int32)) (tgt := 146) G.hx G.hb (dcs_get dec_X4_parseTell_0 2 rfl) hc12 (by decide) rfl (by decide) ?_
    refine lv_aload_n G.hx G.hb (dcs_get dec_X4_parseTell_0 29 rfl) rfl (lv_at hl 0 rfl) ?_
    obtain ⟨σ17, h16, hf⟩ := cB_some hf
    refine a_v (k_V (As := []) (rest := []) cls4 lb_X4_parseSleeper lv_X4_parseSleeper q_670 (C_X4_parseSleeper G.2.2.1 a0 σ h16 ok_a0) ⟨(Nat.le_of_ble_eq_true rfl), (Nat.le_of_ble_eq_true rfl)⟩ G w k_a0.1 k_a0.2 rfl rfl hl.1 (Nat.le_of_ble_eq_true rfl) (dcs_get dec_X4_parseTell_0 30 rfl) ⟨Nat.le_refl _, Nat.le_refl _⟩) G w (fun H locs w => ?_)
    refine lv_goto (tgt := 158) G.hx G.hb (dcs_get dec_X4_parseTell_0 31 rfl) (by decide) ?_
    exact B_X4_parseTell_158 a0 σ17 G hm ok_a0 hf  w (lv_sub hl [0] rfl)
  rw [if_neg hc12] at hf
  by_cases hc13 : v7 = (141 : Int32)
  · rw [if_pos hc13] at hf
    refine r_tIn (k := (141 : Int32)) (tgt := 153) G.hx G.hb (dcs_get dec_X4_parseTell_0 2 rfl) hc13 (by decide) rfl (by decide) ?_
    exact B_X4_parseTell_153 a0 σ G hm ok_a0 hf  w (lv_sub hl [0] rfl)
  rw [if_neg hc13] at hf
  by_cases hc14 : v7 = (142 : Int32)
  · rw [if_pos hc14] at hf
    refine r_tIn (k := (142 : Int32)) (tgt := 105) G.hx G.hb (dcs_get dec_X4_parseTell_0 2 rfl) hc14 (by decide) rfl (by decide) ?_
    refine lv_aload_n G.hx G.hb (dcs_get dec_X4_parseTell_0 12 rfl) rfl (lv_at hl 0 rfl) ?_
    refine lv_sipush (v := (142 : Int32)) G.hx G.hb (dcs_get dec_X4_parseTell_0 13 rfl) (by decide) ?_
    refine lv_aload_n G.hx G.hb (dcs_get dec_X4_parseTell_0 14 rfl) rfl (lv_at hl 0 rfl) ?_
    obtain ⟨z18, e_z18, ok_z18, hf⟩ := cR_some hf
    have k_z18 := okr_in ok_z18
    refine r_getr (k := 3) cls4 fi_4_3.1 fi_4_3.2 q_200 G w k_a0.1 k_a0.2 e_z18 (dcs_get dec_X4_parseTell_0 15 rfl) ?_
    obtain ⟨z19, e_z19, ok_z19, hf⟩ := cR_some hf
    have k_z19 := okr_in ok_z19
    refine r_getrN (k := 6) cls7 fi_7_6.1 fi_7_6.2 nf_112 G w k_z18.1 k_z18.2 e_z19 (dcs_get dec_X4_parseTell_0 16 rfl) ?_
    obtain ⟨σ21, h20, hf⟩ := cB_some hf
    refine a_v (k_V (As := [.int (142 : Int32), .ref (ad z19)]) (rest := []) cls4 lb_X4_parseRow lv_X4_parseRow q_662 (C_X4_parseRow G.2.2.1 a0 (142 : Int32) z19 σ h20 ok_a0 ok_z19) ⟨(Nat.le_of_ble_eq_true rfl), (Nat.le_of_ble_eq_true rfl)⟩ G w k_a0.1 k_a0.2 rfl rfl hl.1 (Nat.le_of_ble_eq_true rfl) (dcs_get dec_X4_parseTell_0 17 rfl) ⟨Nat.le_refl _, Nat.le_refl _⟩) G w (fun H locs w => ?_)
    refine lv_goto (tgt := 158) G.hx G.hb (dcs_get dec_X4_parseTell_0 18 rfl) (by decide) ?_
    exact B_X4_parseTell_158 a0 σ21 G hm ok_a0 hf  w (lv_sub hl [0] rfl)
  rw [if_neg hc14] at hf
  by_cases hc15 : v7 = (143 : Int32)
  · rw [if_pos hc15] at hf
    refine r_tIn (k := (143 : Int32)) (tgt := 122) G.hx G.hb (dcs_get dec_X4_parseTell_0 2 rfl) hc15 (by decide) rfl (by decide) ?_
    refine lv_aload_n G.hx G.hb (dcs_get dec_X4_parseTell_0 19 rfl) rfl (lv_at hl 0 rfl) ?_
    refine lv_sipush (v := (143 : Int32)) G.hx G.hb (dcs_get dec_X4_parseTell_0 20 rfl) (by decide) ?_
    refine lv_aload_n G.hx G.hb (dcs_get dec_X4_parseTell_0 21 rfl) rfl (lv_at hl 0 rfl) ?_
    obtain ⟨z22, e_z22, ok_z22, hf⟩ := cR_some hf
    have k_z22 := okr_in ok_z22
    refine r_getr (k := 3) cls4 fi_4_3.1 fi_4_3.2 q_200 G w k_a0.1 k_a0.2 e_z22 (dcs_get dec_X4_parseTell_0 22 rfl) ?_
    obtain ⟨z23, e_z23, ok_z23, hf⟩ := cR_some hf
    have k_z23 := okr_in ok_z23
    refine r_getrN (k := 7) cls7 fi_7_7.1 fi_7_7.2 nf_115 G w k_z22.1 k_z22.2 e_z23 (dcs_get dec_X4_parseTell_0 23 rfl) ?_
    obtain ⟨σ25, h24, hf⟩ := cB_some hf
    refine a_v (k_V (As := [.int (143 : Int32), .ref (ad z23)]) (rest := []) cls4 lb_X4_parseRow lv_X4_parseRow q_662 (C_X4_parseRow G.2.2.1 a0 (143 : Int32) z23 σ h24 ok_a0 ok_z23) ⟨(Nat.le_of_ble_eq_true rfl), (Nat.le_of_ble_eq_true rfl)⟩ G w k_a0.1 k_a0.2 rfl rfl hl.1 (Nat.le_of_ble_eq_true rfl) (dcs_get dec_X4_parseTell_0 24 rfl) ⟨Nat.le_refl _, Nat.le_refl _⟩) G w (fun H locs w => ?_)
    refine lv_goto (tgt := 158) G.hx G.hb (dcs_get dec_X4_parseTell_0 25 rfl) (by decide) ?_
    exact B_X4_parseTell_158 a0 σ25 G hm ok_a0 hf  w (lv_sub hl [0] rfl)
  rw [if_neg hc15] at hf
  refine lv_tableOut (tgt := 153) G.hx G.hb (dcs_get dec_X4_parseTell_0 2 rfl) (ts_out [(128 : Int32), (129 : Int32), (130 : Int32), (131 : Int32), (132 : Int32), (133 : Int32), (134 : Int32), (135 : Int32), (136 : Int32), (137 : Int32), (138 : Int32), (139 : Int32), (140 : Int32), (141 : Int32), (142 : Int32), (143 : Int32)] (by intro z h1 h2; simp only [List.map]; rcases (show z = 128 ∨ z = 129 ∨ z = 130 ∨ z = 131 ∨ z = 132 ∨ z = 133 ∨ z = 134 ∨ z = 135 ∨ z = 136 ∨ z = 137 ∨ z = 138 ∨ z = 139 ∨ z = 140 ∨ z = 141 ∨ z = 142 ∨ z = 143 by omega) with h4 | h4 | h4 | h4 | h4 | h4 | h4 | h4 | h4 | h4 | h4 | h4 | h4 | h4 | h4 | h4 <;> subst h4 <;> decide) (by simp only [List.forall_mem_cons]; exact ⟨hc0, hc1, hc2, hc3, hc4, hc5, hc6, hc7, hc8, hc9, hc10, hc11, hc12, hc13, hc14, hc15, fun _ h => absurd h List.not_mem_nil⟩)) (by decide) ?_
  exact B_X4_parseTell_153 a0 σ G hm ok_a0 hf  w (lv_sub hl [0] rfl)
end
set_option maxRecDepth 100000 in
set_option maxHeartbeats 4000000 in
theorem C_X4_parseTell {l : Launch} {D : va_G} {ay : Nat → ClassId} {ad : Nat → Nat} (hi : hInj NC ad) (a0 : Nat) (σ : hSt) {σ0 : hSt} (hf : F_X4_parseTell a0 σ = some σ0) (ok_a0 : okr kC NC 4 a0 = true) : hM l D ay kC NC ad yX4_parseTell cX4_parseTell 1 (none) (rmK 98 2445) [.ref (ad a0)] σ (cV D ay kC NC ad σ0) := by
  refine hM_in (by decide) hi (Nat.le_of_ble_eq_true rfl) ?_
  intro p e s m below meth c G hm w ls hl
  exact B_X4_parseTell_0 a0 σ G hm ok_a0 hf w (lv_sub hl [0] rfl)

/-! HillDrums.Reader.parse(LHillDrums$Tape;LHillDrums$Text;)V -/
def DL_X4_parse_0 : List (Nat × Instr × Nat) := [(0, .aload_n 2, 1), (1, .invokevirtual 45, 3), (4, .aload_n 0, 1), (5, .getfield 12, 3), (8, .aload_n 1, 1), (9, .invokevirtual 50, 3), (12, .aload_n 0, 1), (13, .aload_n 2, 1), (14, .putfield 41, 3), (17, .aload_n 0, 1), (18, .iconst 0, 1), (19, .putfield 25, 3), (22, .aload_n 0, 1), (23, .iconst 0, 1), (24, .putfield 29, 3), (27, .aload_n 0, 1), (28, .iconst (-1), 1), (29, .putfield 32, 3), (32, .aload_n 0, 1), (33, .iconst 0, 1), (34, .putfield 35, 3), (37, .aload_n 0, 1), (38, .iconst (-1), 1), (39, .putfield 38, 3), (42, .iconst 0, 1), (43, .istore_n 3, 1), (44, .iload_n 3, 1), (45, .sipush 401, 3), (48, .if_icmp .ge 27, 3), (51, .aload_n 0, 1), (52, .getfield 29, 3), (55, .ifCond .ne 20, 3), (58, .aload_n 0, 1), (59, .invokevirtual 54, 3), (62, .ifCond .eq 13, 3), (65, .aload_n 0, 1), (66, .invokevirtual 58, 3), (69, .iinc 3 1, 3), (72, .goto (-28), 3), (75, .aload_n 0, 1)]
set_option maxRecDepth 100000 in
theorem dec_X4_parse_0 : dcs cX4_parse DL_X4_parse_0 = true := by decide +kernel
def DL_X4_parse_1 : List (Nat × Instr × Nat) := [(76, .getfield 29, 3), (79, .ifCond .ne 26, 3), (82, .aload_n 0, 1), (83, .getfield 35, 3), (86, .ifCond .eq 19, 3), (89, .aload_n 0, 1), (90, .aload_n 0, 1), (91, .getfield 35, 3), (94, .putfield 29, 3), (97, .aload_n 0, 1), (98, .aload_n 0, 1), (99, .getfield 38, 3), (102, .putfield 32, 3), (105, .return_, 1)]
set_option maxRecDepth 100000 in
theorem dec_X4_parse_1 : dcs cX4_parse DL_X4_parse_1 = true := by decide +kernel
theorem lb_X4_parse : lkB yX4_parse cX4_parse 4 (none) 2 := ⟨q_450, q_6, ⟨by decide, by decide⟩, by decide +kernel⟩
theorem lv_X4_parse : lkV yX4_parse := ⟨q_449, qs_6⟩
def F_X4_parse_105  (σ : hSt) : Option (hSt) :=
some (σ)
def F_X4_parse_75 (a0 : Nat) (σ : hSt) : Option (hSt) :=
if (σ.1 a0 5) = 0 then (
if (σ.1 a0 7) = 0 then (
F_X4_parse_105  σ) else (
cL (uI σ a0 5 (σ.1 a0 7)) fun σ1 =>
cL (uI σ1 a0 6 (σ1.1 a0 8)) fun σ2 =>
F_X4_parse_105  σ2)) else (
F_X4_parse_105  σ)
def F_X4_parse_44b (a0 : Nat) (l3 : Int32) (σ : hSt) : Option ((Int32 × hSt) ⊕ (hSt)) :=
if (401 : Int32) ≤ l3 then (
(F_X4_parse_75 a0 σ).map (fun x => .inr (x))) else (
if (σ.1 a0 5) = 0 then (
(F_X4_kind a0 σ).bind fun v4 =>
if v4 = 0 then (
(F_X4_parse_75 a0 σ).map (fun x => .inr (x))) else (
(F_X4_parseTell a0 σ).bind fun σ6 =>
cL (l3 + (1 : Int32)) fun v7 =>
some (.inl (v7, σ6)))) else (
(F_X4_parse_75 a0 σ).map (fun x => .inr (x))))
def S_X4_parse_44 (a0 : Nat) (v : Int32 × hSt) : Option ((Int32 × hSt) ⊕ (hSt)) := F_X4_parse_44b a0 v.1 v.2
def F_X4_parse_44 (a0 : Nat) (l3 : Int32) (σ : hSt) : Option (hSt) := lp (S_X4_parse_44 a0) fuel (l3, σ)
def F_X4_parse (a0 : Nat) (a1 : Nat) (a2 : Nat) (σ : hSt) : Option (hSt) :=
(F_X7_clear a2 σ).bind fun σ9 =>
cR (σ9.2.2 a0 0) (okr kC NC 8) fun z10 =>
(F_X8_split z10 a1 σ9).bind fun σ12 =>
cL (uP σ12 a0 3 (some a2)) fun σ13 =>
cL (uI σ13 a0 4 (0 : Int32)) fun σ14 =>
cL (uI σ14 a0 5 (0 : Int32)) fun σ15 =>
cL (uI σ15 a0 6 (-1 : Int32)) fun σ16 =>
cL (uI σ16 a0 7 (0 : Int32)) fun σ17 =>
cL (uI σ17 a0 8 (-1 : Int32)) fun σ18 =>
F_X4_parse_44 a0 (0 : Int32) σ18
section
variable {p : Program} {l : Launch} {e : Env} {s : State} {m : MethodId} {args : Array Value} {below : List Frame} {meth : Method} {c : Code} {D : va_G} {ay : Nat → ClassId} {ad : Nat → Nat}
set_option maxRecDepth 100000 in
set_option maxHeartbeats 4000000 in
theorem B_X4_parse_105 {H : Heap} {locs : List Loc} {ls : Array Slot} {σ0 : hSt}  (σ : hSt) (G : Gx p m c cX4_parse 4 s args RX4 D ay NC ad (aN NC ad)) (hm : meth.sig.returnType = none ∧ meth.locks = false)  (hf : F_X4_parse_105  σ = some σ0)  (w : Wd D ay kC NC ad (aN NC ad) s σ H locs) (hl : lv_has ls 4 []) : W p l e (rmK 99 2465) s m args below meth c H locs 0 0 (MQ below (cV D ay kC NC ad σ0) args s 0 0 (aN NC ad)) (F0 m 105 ls []) := by
  unfold F_X4_parse_105 at hf
  have e9 := Option.some.inj hf
  exact r_vret G w hm e9 (dcs_get dec_X4_parse_1 13 rfl)
set_option maxRecDepth 100000 in
set_option maxHeartbeats 4000000 in
theorem B_X4_parse_75 {H : Heap} {locs : List Loc} {ls : Array Slot} {σ0 : hSt} (a0 : Nat) (σ : hSt) (G : Gx p m c cX4_parse 4 s args RX4 D ay NC ad (aN NC ad)) (hm : meth.sig.returnType = none ∧ meth.locks = false) (ok_a0 : okr kC NC 4 a0 = true) (hf : F_X4_parse_75 a0 σ = some σ0)  (w : Wd D ay kC NC ad (aN NC ad) s σ H locs) (hl : lv_has ls 4 [(0, .ref (ad a0))]) : W p l e (rmK 99 2465) s m args below meth c H locs 0 0 (MQ below (cV D ay kC NC ad σ0) args s 0 0 (aN NC ad)) (F0 m 75 ls []) := by
  have k_a0 := okr_in ok_a0
  unfold F_X4_parse_75 at hf
  refine lv_aload_n G.hx G.hb (dcs_get dec_X4_parse_0 39 rfl) rfl (lv_at hl 0 rfl) ?_
  refine r_geti (k := 5) cls4 fi_4_5.1 fi_4_5.2 q_202 G w k_a0.1 k_a0.2 (dcs_get dec_X4_parse_1 0 rfl) ?_
  refine lv_if_ne (tgt := 105) G.hx G.hb (dcs_get dec_X4_parse_1 1 rfl) (by decide) (fun hc => ?_) (fun hc => ?_)
  · rw [if_neg hc] at hf
    exact B_X4_parse_105  σ G hm  hf  w (lv_sub hl [] rfl)
  · rw [if_pos hc] at hf
    refine lv_aload_n G.hx G.hb (dcs_get dec_X4_parse_1 2 rfl) rfl (lv_at hl 0 rfl) ?_
    refine r_geti (k := 7) cls4 fi_4_7.1 fi_4_7.2 q_206 G w k_a0.1 k_a0.2 (dcs_get dec_X4_parse_1 3 rfl) ?_
    refine lv_if_eq (tgt := 105) G.hx G.hb (dcs_get dec_X4_parse_1 4 rfl) (by decide) (fun hc => ?_) (fun hc => ?_)
    · rw [if_pos hc] at hf
      exact B_X4_parse_105  σ G hm  hf  w (lv_sub hl [] rfl)
    · rw [if_neg hc] at hf
      refine lv_aload_n G.hx G.hb (dcs_get dec_X4_parse_1 5 rfl) rfl (lv_at hl 0 rfl) ?_
      refine lv_aload_n G.hx G.hb (dcs_get dec_X4_parse_1 6 rfl) rfl (lv_at hl 0 rfl) ?_
      refine r_geti (k := 7) cls4 fi_4_7.1 fi_4_7.2 q_206 G w k_a0.1 k_a0.2 (dcs_get dec_X4_parse_1 7 rfl) ?_
      obtain ⟨σ1, e_σ1, hf⟩ := cL_some hf
      refine r_puti (k := 5) cls4 ct4 fi_4_5.1 fi_4_5.2 fp_4_5.1 fp_4_5.2 q_202 rfl rfl G w k_a0.1 k_a0.2 (dcs_get dec_X4_parse_1 8 rfl) (fun H locs w => ?_)
      have w := Wd.nm e_σ1 w
      refine lv_aload_n G.hx G.hb (dcs_get dec_X4_parse_1 9 rfl) rfl (lv_at hl 0 rfl) ?_
      refine lv_aload_n G.hx G.hb (dcs_get dec_X4_parse_1 10 rfl) rfl (lv_at hl 0 rfl) ?_
      refine r_geti (k := 8) cls4 fi_4_8.1 fi_4_8.2 q_207 G w k_a0.1 k_a0.2 (dcs_get dec_X4_parse_1 11 rfl) ?_
      obtain ⟨σ2, e_σ2, hf⟩ := cL_some hf
      refine r_puti (k := 6) cls4 ct4 fi_4_6.1 fi_4_6.2 fp_4_6.1 fp_4_6.2 q_204 rfl rfl G w k_a0.1 k_a0.2 (dcs_get dec_X4_parse_1 12 rfl) (fun H locs w => ?_)
      have w := Wd.nm e_σ2 w
      exact B_X4_parse_105  σ2 G hm  hf  w (lv_sub hl [] rfl)
set_option maxRecDepth 100000 in
set_option maxHeartbeats 4000000 in
theorem B_X4_parse_44b {H : Heap} {locs : List Loc} {ls : Array Slot} {σ0 : hSt} {o : (Int32 × hSt) ⊕ (hSt)} (a0 : Nat) (l3 : Int32) (σ : hSt) (G : Gx p m c cX4_parse 4 s args RX4 D ay NC ad (aN NC ad)) (hm : meth.sig.returnType = none ∧ meth.locks = false) (ok_a0 : okr kC NC 4 a0 = true) (hf : F_X4_parse_44b a0 l3 σ = some o) (hb0 : ∀ (v : Int32 × hSt), o = .inl v → ∀ (H : Heap) (locs : List Loc) (ls : Array Slot), Wd D ay kC NC ad (aN NC ad) s v.2 H locs → lv_has ls 4 [(0, .ref (ad a0)), (3, .int v.1)] → W p l e (rmK 99 2465) s m args below meth c H locs 0 0 (MQ below (cV D ay kC NC ad σ0) args s 0 0 (aN NC ad)) (F0 m 44 ls [])) (hr : ∀ x, o = .inr (x) → x = σ0) (w : Wd D ay kC NC ad (aN NC ad) s σ H locs) (hl : lv_has ls 4 [(0, .ref (ad a0)), (3, .int l3)]) : W p l e (rmK 99 2465) s m args below meth c H locs 0 0 (MQ below (cV D ay kC NC ad σ0) args s 0 0 (aN NC ad)) (F0 m 44 ls []) := by
  have k_a0 := okr_in ok_a0
  unfold F_X4_parse_44b at hf
  refine lv_iload_n G.hx G.hb (dcs_get dec_X4_parse_0 26 rfl) rfl (lv_at hl 1 rfl) ?_
  refine lv_sipush (v := (401 : Int32)) G.hx G.hb (dcs_get dec_X4_parse_0 27 rfl) (by decide) ?_
  refine lv_icmp_ge (tgt := 75) G.hx G.hb (dcs_get dec_X4_parse_0 28 rfl) (by decide) (fun hc => ?_) (fun hc => ?_)
  · rw [if_pos hc] at hf
    obtain ⟨x9, h9, e9⟩ := map_some_inv hf
    subst e9
    have e8 := hr _ rfl
    rw [e8] at h9
    exact B_X4_parse_75 a0 σ G hm ok_a0 h9 w (lv_sub hl [0] rfl)
  · rw [if_neg hc] at hf
    refine lv_aload_n G.hx G.hb (dcs_get dec_X4_parse_0 29 rfl) rfl (lv_at hl 0 rfl) ?_
    refine r_geti (k := 5) cls4 fi_4_5.1 fi_4_5.2 q_202 G w k_a0.1 k_a0.2 (dcs_get dec_X4_parse_0 30 rfl) ?_
    refine lv_if_ne (tgt := 75) G.hx G.hb (dcs_get dec_X4_parse_0 31 rfl) (by decide) (fun hc => ?_) (fun hc => ?_)
    · rw [if_neg hc] at hf
      obtain ⟨x9, h9, e9⟩ := map_some_inv hf
      subst e9
      have e8 := hr _ rfl
      rw [e8] at h9
      exact B_X4_parse_75 a0 σ G hm ok_a0 h9 w (lv_sub hl [0] rfl)
    · rw [if_pos hc] at hf
      refine lv_aload_n G.hx G.hb (dcs_get dec_X4_parse_0 32 rfl) rfl (lv_at hl 0 rfl) ?_
      obtain ⟨v4, h3, hf⟩ := cB_some hf
      refine a_i (k_V (As := []) (rest := []) cls4 lb_X4_kind lv_X4_kind q_597 (C_X4_kind G.2.2.1 a0 σ h3 ok_a0) ⟨(Nat.le_of_ble_eq_true rfl), (Nat.le_of_ble_eq_true rfl)⟩ G w k_a0.1 k_a0.2 rfl rfl hl.1 (Nat.le_of_ble_eq_true rfl) (dcs_get dec_X4_parse_0 33 rfl) ⟨Nat.le_refl _, Nat.le_refl _⟩) G w (fun H locs w => ?_)
      refine lv_if_eq (tgt := 75) G.hx G.hb (dcs_get dec_X4_parse_0 34 rfl) (by decide) (fun hc => ?_) (fun hc => ?_)
      · rw [if_pos hc] at hf
        obtain ⟨x9, h9, e9⟩ := map_some_inv hf
        subst e9
        have e8 := hr _ rfl
        rw [e8] at h9
        exact B_X4_parse_75 a0 σ G hm ok_a0 h9 w (lv_sub hl [0] rfl)
      · rw [if_neg hc] at hf
        refine lv_aload_n G.hx G.hb (dcs_get dec_X4_parse_0 35 rfl) rfl (lv_at hl 0 rfl) ?_
        obtain ⟨σ6, h5, hf⟩ := cB_some hf
        refine a_v (k_V (As := []) (rest := []) cls4 lb_X4_parseTell lv_X4_parseTell q_601 (C_X4_parseTell G.2.2.1 a0 σ h5 ok_a0) ⟨(Nat.le_of_ble_eq_true rfl), (Nat.le_of_ble_eq_true rfl)⟩ G w k_a0.1 k_a0.2 rfl rfl hl.1 (Nat.le_of_ble_eq_true rfl) (dcs_get dec_X4_parse_0 36 rfl) ⟨Nat.le_refl _, Nat.le_refl _⟩) G w (fun H locs w => ?_)
        obtain ⟨v7, e_v7, hf⟩ := cL_some hf
        refine lv_iinc (v := v7) (lv' := [(3, .int v7), (0, .ref (ad a0))]) G.hx G.hb (dcs_get dec_X4_parse_0 37 rfl) hl (k := 1) rfl (by rw [e_v7]; rfl) (by decide) rfl (fun ls hl => ?_)
        refine lv_goto (tgt := 44) G.hx G.hb (dcs_get dec_X4_parse_0 38 rfl) (by decide) ?_
        exact hb0 _ (Option.some.inj hf).symm _ _ _ w (lv_sub hl [1, 0] rfl)
set_option maxRecDepth 100000 in
set_option maxHeartbeats 4000000 in
theorem H_X4_parse_44 {σ0 : hSt} (a0 : Nat) (G : Gx p m c cX4_parse 4 s args RX4 D ay NC ad (aN NC ad)) (hm : meth.sig.returnType = none ∧ meth.locks = false) (ok_a0 : okr kC NC 4 a0 = true)  : ∀ (k : Nat) (v : Int32 × hSt), lp (S_X4_parse_44 a0) k v = some σ0 → ∀ (H : Heap) (locs : List Loc) (ls : Array Slot), Wd D ay kC NC ad (aN NC ad) s v.2 H locs → lv_has ls 4 [(0, .ref (ad a0)), (3, .int v.1)] → W p l e (rmK 99 2465) s m args below meth c H locs 0 0 (MQ below (cV D ay kC NC ad σ0) args s 0 0 (aN NC ad)) (F0 m 44 ls []) := by
  intro k
  induction k with
  | zero => intro v hf; cases hf
  | succ k ih =>
    intro v hf H locs ls w hl
    obtain ⟨o1, h1, h2, h3⟩ := lp_some hf
    exact B_X4_parse_44b a0 v.1 v.2 G hm ok_a0 h1  (fun v' e => ih v' (h2 v' e)) (fun x e => h3 x e) w hl
set_option maxRecDepth 100000 in
set_option maxHeartbeats 4000000 in
theorem B_X4_parse_44 {H : Heap} {locs : List Loc} {ls : Array Slot} {σ0 : hSt} (a0 : Nat) (l3 : Int32) (σ : hSt) (G : Gx p m c cX4_parse 4 s args RX4 D ay NC ad (aN NC ad)) (hm : meth.sig.returnType = none ∧ meth.locks = false) (ok_a0 : okr kC NC 4 a0 = true) (hf : F_X4_parse_44 a0 l3 σ = some σ0)  (w : Wd D ay kC NC ad (aN NC ad) s σ H locs) (hl : lv_has ls 4 [(0, .ref (ad a0)), (3, .int l3)]) : W p l e (rmK 99 2465) s m args below meth c H locs 0 0 (MQ below (cV D ay kC NC ad σ0) args s 0 0 (aN NC ad)) (F0 m 44 ls []) := by
  unfold F_X4_parse_44 at hf
  exact H_X4_parse_44 a0  G hm ok_a0  fuel (l3, σ) hf _ _ _ w hl
set_option maxRecDepth 100000 in
set_option maxHeartbeats 4000000 in
theorem B_X4_parse_0 {H : Heap} {locs : List Loc} {ls : Array Slot} {σ0 : hSt} (a0 : Nat) (a1 : Nat) (a2 : Nat) (σ : hSt) (G : Gx p m c cX4_parse 4 s args RX4 D ay NC ad (aN NC ad)) (hm : meth.sig.returnType = none ∧ meth.locks = false) (ok_a0 : okr kC NC 4 a0 = true) (ok_a1 : okr kC NC 6 a1 = true) (ok_a2 : okr kC NC 7 a2 = true) (hf : F_X4_parse a0 a1 a2 σ = some σ0)  (w : Wd D ay kC NC ad (aN NC ad) s σ H locs) (hl : lv_has ls 4 [(0, .ref (ad a0)), (1, .ref (ad a1)), (2, .ref (ad a2))]) : W p l e (rmK 99 2465) s m args below meth c H locs 0 0 (MQ below (cV D ay kC NC ad σ0) args s 0 0 (aN NC ad)) (F0 m 0 ls []) := by
  have k_a0 := okr_in ok_a0
  have k_a1 := okr_in ok_a1
  have k_a2 := okr_in ok_a2
  unfold F_X4_parse at hf
  refine lv_aload_n G.hx G.hb (dcs_get dec_X4_parse_0 0 rfl) rfl (lv_at hl 2 rfl) ?_
  obtain ⟨σ9, h8, hf⟩ := cB_some hf
  refine a_v (k_VN (As := []) (rest := []) cls7 lb_X7_clear lv_X7_clear nm_451 (C_X7_clear G.2.2.1 a2 σ h8 ok_a2) ⟨(Nat.le_of_ble_eq_true rfl), (Nat.le_of_ble_eq_true rfl)⟩ G w k_a2.1 k_a2.2 rfl rfl hl.1 (Nat.le_of_ble_eq_true rfl) (dcs_get dec_X4_parse_0 1 rfl) ⟨Nat.le_refl _, Nat.le_refl _⟩) G w (fun H locs w => ?_)
  refine lv_aload_n G.hx G.hb (dcs_get dec_X4_parse_0 2 rfl) rfl (lv_at hl 0 rfl) ?_
  obtain ⟨z10, e_z10, ok_z10, hf⟩ := cR_some hf
  have k_z10 := okr_in ok_z10
  refine r_getr (k := 0) cls4 fi_4_0.1 fi_4_0.2 q_197 G w k_a0.1 k_a0.2 e_z10 (dcs_get dec_X4_parse_0 3 rfl) ?_
  refine lv_aload_n G.hx G.hb (dcs_get dec_X4_parse_0 4 rfl) rfl (lv_at hl 1 rfl) ?_
  obtain ⟨σ12, h11, hf⟩ := cB_some hf
  refine a_v (k_VN (As := [.ref (ad a1)]) (rest := []) cls8 lb_X8_split lv_X8_split nm_452 (C_X8_split G.2.2.1 z10 a1 σ9 h11 ok_z10 ok_a1) ⟨(Nat.le_of_ble_eq_true rfl), (Nat.le_of_ble_eq_true rfl)⟩ G w k_z10.1 k_z10.2 rfl rfl hl.1 (Nat.le_of_ble_eq_true rfl) (dcs_get dec_X4_parse_0 5 rfl) ⟨Nat.le_refl _, Nat.le_refl _⟩) G w (fun H locs w => ?_)
  refine lv_aload_n G.hx G.hb (dcs_get dec_X4_parse_0 6 rfl) rfl (lv_at hl 0 rfl) ?_
  refine lv_aload_n G.hx G.hb (dcs_get dec_X4_parse_0 7 rfl) rfl (lv_at hl 2 rfl) ?_
  obtain ⟨σ13, e_σ13, hf⟩ := cL_some hf
  refine r_putr (k := 3) cls4 ct4 fi_4_3.1 fi_4_3.2 fp_4_3.1 fp_4_3.2 q_200 (fun _ => rfl) (fun _ => rfl) G w k_a0.1 k_a0.2 (dcs_get dec_X4_parse_0 8 rfl) (fun H locs w => ?_)
  have w := Wd.nm e_σ13 w
  refine lv_aload_n G.hx G.hb (dcs_get dec_X4_parse_0 9 rfl) rfl (lv_at hl 0 rfl) ?_
  refine lv_iconst (v := (0 : Int32)) G.hx G.hb (dcs_get dec_X4_parse_0 10 rfl) (by decide) ?_
  obtain ⟨σ14, e_σ14, hf⟩ := cL_some hf
  refine r_puti (k := 4) cls4 ct4 fi_4_4.1 fi_4_4.2 fp_4_4.1 fp_4_4.2 q_201 rfl rfl G w k_a0.1 k_a0.2 (dcs_get dec_X4_parse_0 11 rfl) (fun H locs w => ?_)
  have w := Wd.nm e_σ14 w
  refine lv_aload_n G.hx G.hb (dcs_get dec_X4_parse_0 12 rfl) rfl (lv_at hl 0 rfl) ?_
  refine lv_iconst (v := (0 : Int32)) G.hx G.hb (dcs_get dec_X4_parse_0 13 rfl) (by decide) ?_
  obtain ⟨σ15, e_σ15, hf⟩ := cL_some hf
  refine r_puti (k := 5) cls4 ct4 fi_4_5.1 fi_4_5.2 fp_4_5.1 fp_4_5.2 q_202 rfl rfl G w k_a0.1 k_a0.2 (dcs_get dec_X4_parse_0 14 rfl) (fun H locs w => ?_)
  have w := Wd.nm e_σ15 w
  refine lv_aload_n G.hx G.hb (dcs_get dec_X4_parse_0 15 rfl) rfl (lv_at hl 0 rfl) ?_
  refine lv_iconst (v := (-1 : Int32)) G.hx G.hb (dcs_get dec_X4_parse_0 16 rfl) (by decide) ?_
  obtain ⟨σ16, e_σ16, hf⟩ := cL_some hf
  refine r_puti (k := 6) cls4 ct4 fi_4_6.1 fi_4_6.2 fp_4_6.1 fp_4_6.2 q_204 rfl rfl G w k_a0.1 k_a0.2 (dcs_get dec_X4_parse_0 17 rfl) (fun H locs w => ?_)
  have w := Wd.nm e_σ16 w
  refine lv_aload_n G.hx G.hb (dcs_get dec_X4_parse_0 18 rfl) rfl (lv_at hl 0 rfl) ?_
  refine lv_iconst (v := (0 : Int32)) G.hx G.hb (dcs_get dec_X4_parse_0 19 rfl) (by decide) ?_
  obtain ⟨σ17, e_σ17, hf⟩ := cL_some hf
  refine r_puti (k := 7) cls4 ct4 fi_4_7.1 fi_4_7.2 fp_4_7.1 fp_4_7.2 q_206 rfl rfl G w k_a0.1 k_a0.2 (dcs_get dec_X4_parse_0 20 rfl) (fun H locs w => ?_)
  have w := Wd.nm e_σ17 w
  refine lv_aload_n G.hx G.hb (dcs_get dec_X4_parse_0 21 rfl) rfl (lv_at hl 0 rfl) ?_
  refine lv_iconst (v := (-1 : Int32)) G.hx G.hb (dcs_get dec_X4_parse_0 22 rfl) (by decide) ?_
  obtain ⟨σ18, e_σ18, hf⟩ := cL_some hf
  refine r_puti (k := 8) cls4 ct4 fi_4_8.1 fi_4_8.2 fp_4_8.1 fp_4_8.2 q_207 rfl rfl G w k_a0.1 k_a0.2 (dcs_get dec_X4_parse_0 23 rfl) (fun H locs w => ?_)
  have w := Wd.nm e_σ18 w
  refine lv_iconst (v := (0 : Int32)) G.hx G.hb (dcs_get dec_X4_parse_0 24 rfl) (by decide) ?_
  refine lv_istore_n (lv' := [(3, .int (0 : Int32)), (0, .ref (ad a0)), (1, .ref (ad a1)), (2, .ref (ad a2))]) G.hx G.hb (dcs_get dec_X4_parse_0 25 rfl) rfl hl (by decide) rfl (fun ls hl => ?_)
  exact B_X4_parse_44 a0 (0 : Int32) σ18 G hm ok_a0 hf  w (lv_sub hl [1, 0] rfl)
end
set_option maxRecDepth 100000 in
set_option maxHeartbeats 4000000 in
theorem C_X4_parse {l : Launch} {D : va_G} {ay : Nat → ClassId} {ad : Nat → Nat} (hi : hInj NC ad) (a0 : Nat) (a1 : Nat) (a2 : Nat) (σ : hSt) {σ0 : hSt} (hf : F_X4_parse a0 a1 a2 σ = some σ0) (ok_a0 : okr kC NC 4 a0 = true) (ok_a1 : okr kC NC 6 a1 = true) (ok_a2 : okr kC NC 7 a2 = true) : hM l D ay kC NC ad yX4_parse cX4_parse 4 (none) (rmK 99 2465) [.ref (ad a0), .ref (ad a1), .ref (ad a2)] σ (cV D ay kC NC ad σ0) := by
  refine hM_in (by decide) hi (Nat.le_of_ble_eq_true rfl) ?_
  intro p e s m below meth c G hm w ls hl
  exact B_X4_parse_0 a0 a1 a2 σ G hm ok_a0 ok_a1 ok_a2 hf w (lv_sub hl [0, 1, 2] rfl)
