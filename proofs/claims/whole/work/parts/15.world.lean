/-! HillDrums.World.knows(II)Z -/
def DL_X10_knows_0 : List (Nat × Instr × Nat) := [(0, .aload_n 0, 1), (1, .getfield 15, 3), (4, .iload_n 1, 1), (5, .iload_n 2, 1), (6, .invokestatic 61, 3), (9, .ishr, 1), (10, .iconst 1, 1), (11, .iand, 1), (12, .ifCond .eq 7, 3), (15, .iconst 1, 1), (16, .goto 4, 3), (19, .iconst 0, 1), (20, .ireturn, 1)]
set_option maxRecDepth 100000 in
theorem dec_X10_knows_0 : dcs cX10_knows DL_X10_knows_0 = true := by decide +kernel
theorem lb_X10_knows : lkB yX10_knows cX10_knows 3 ((some .boolean)) 2 := ⟨q_727, q_8, ⟨by decide, by decide⟩, by decide +kernel⟩
theorem lv_X10_knows : lkV yX10_knows := ⟨q_726, qs_38⟩
def F_X10_knows_20 (s0 : Int32) (σ : hSt) : Option (Int32) :=
cG (isB s0) <|
some (s0)
def F_X10_knows (a0 : Nat) (l1 : Int32) (l2 : Int32) (σ : hSt) : Option (Int32) :=
(F_X11_pairOf l1 l2 σ).bind fun v3 =>
if (((σ.1 a0 1) >>> (v3 &&& 31)) &&& (1 : Int32)) = 0 then (
F_X10_knows_20 (0 : Int32) σ) else (
F_X10_knows_20 (1 : Int32) σ)
section
variable {p : Program} {l : Launch} {e : Env} {s : State} {m : MethodId} {args : Array Value} {below : List Frame} {meth : Method} {c : Code} {D : va_G} {ay : Nat → ClassId} {ad : Nat → Nat}
set_option maxRecDepth 100000 in
set_option maxHeartbeats 4000000 in
theorem B_X10_knows_20 {H : Heap} {locs : List Loc} {ls : Array Slot} {r0 : Int32} (s0 : Int32) (σ : hSt) (G : Gx p m c cX10_knows 3 s args RX10 D ay NC ad (aN NC ad)) (hm : meth.sig.returnType = (some .boolean) ∧ meth.locks = false)  (hf : F_X10_knows_20 s0 σ = some r0)  (w : Wd D ay kC NC ad (aN NC ad) s σ H locs) (hl : lv_has ls 3 []) : W p l e (rmK 1 21) s m args below meth c H locs 0 0 (MQ below (cI D ay kC NC ad r0 σ) args s 0 0 (aN NC ad)) (F0 m 20 ls [.int s0]) := by
  unfold F_X10_knows_20 at hf
  obtain ⟨h1, hf⟩ := cG_some hf
  have e9 := Option.some.inj hf
  exact r_zret (isB_nar h1) G w hm e9 rfl (dcs_get dec_X10_knows_0 12 rfl)
set_option maxRecDepth 100000 in
set_option maxHeartbeats 4000000 in
theorem B_X10_knows_0 {H : Heap} {locs : List Loc} {ls : Array Slot} {r0 : Int32} (a0 : Nat) (l1 : Int32) (l2 : Int32) (σ : hSt) (G : Gx p m c cX10_knows 3 s args RX10 D ay NC ad (aN NC ad)) (hm : meth.sig.returnType = (some .boolean) ∧ meth.locks = false) (ok_a0 : okr kC NC 10 a0 = true) (hf : F_X10_knows a0 l1 l2 σ = some r0)  (w : Wd D ay kC NC ad (aN NC ad) s σ H locs) (hl : lv_has ls 3 [(0, .ref (ad a0)), (1, .int l1), (2, .int l2)]) : W p l e (rmK 1 21) s m args below meth c H locs 0 0 (MQ below (cI D ay kC NC ad r0 σ) args s 0 0 (aN NC ad)) (F0 m 0 ls []) := by
  have k_a0 := okr_in ok_a0
  unfold F_X10_knows at hf
  refine lv_aload_n G.hx G.hb (dcs_get dec_X10_knows_0 0 rfl) rfl (lv_at hl 0 rfl) ?_
  refine r_geti (k := 1) cls10 fi_10_1.1 fi_10_1.2 q_237 G w k_a0.1 k_a0.2 (dcs_get dec_X10_knows_0 1 rfl) ?_
  refine lv_iload_n G.hx G.hb (dcs_get dec_X10_knows_0 2 rfl) rfl (lv_at hl 1 rfl) ?_
  refine lv_iload_n G.hx G.hb (dcs_get dec_X10_knows_0 3 rfl) rfl (lv_at hl 2 rfl) ?_
  obtain ⟨v3, h2, hf⟩ := cB_some hf
  refine a_i (k_SN (As := [.int l1, .int l2]) (rest := [.int (σ.1 a0 1)]) lb_X11_pairOf q_389 nm_388 (C_X11_pairOf G.2.2.1 l1 l2 σ h2 ) ⟨(Nat.le_of_ble_eq_true rfl), (Nat.le_of_ble_eq_true rfl)⟩ G w rfl rfl hl.1 (Nat.le_of_ble_eq_true rfl) (dcs_get dec_X10_knows_0 4 rfl) ⟨Nat.le_refl _, Nat.le_refl _⟩) G w (fun H locs w => ?_)
  refine lv_ishr G.hx G.hb (dcs_get dec_X10_knows_0 5 rfl) ?_
  refine lv_iconst (v := (1 : Int32)) G.hx G.hb (dcs_get dec_X10_knows_0 6 rfl) (by decide) ?_
  refine lv_iand G.hx G.hb (dcs_get dec_X10_knows_0 7 rfl) ?_
  refine lv_if_eq (tgt := 19) G.hx G.hb (dcs_get dec_X10_knows_0 8 rfl) (by decide) (fun hc => ?_) (fun hc => ?_)
  · rw [if_pos hc] at hf
    refine lv_iconst (v := (0 : Int32)) G.hx G.hb (dcs_get dec_X10_knows_0 11 rfl) (by decide) ?_
    exact B_X10_knows_20 (0 : Int32) σ G hm  hf  w (lv_sub hl [] rfl)
  · rw [if_neg hc] at hf
    refine lv_iconst (v := (1 : Int32)) G.hx G.hb (dcs_get dec_X10_knows_0 9 rfl) (by decide) ?_
    refine lv_goto (tgt := 20) G.hx G.hb (dcs_get dec_X10_knows_0 10 rfl) (by decide) ?_
    exact B_X10_knows_20 (1 : Int32) σ G hm  hf  w (lv_sub hl [] rfl)
end
set_option maxRecDepth 100000 in
set_option maxHeartbeats 4000000 in
theorem C_X10_knows {l : Launch} {D : va_G} {ay : Nat → ClassId} {ad : Nat → Nat} (hi : hInj NC ad) (a0 : Nat) (l1 : Int32) (l2 : Int32) (σ : hSt) {r0 : Int32} (hf : F_X10_knows a0 l1 l2 σ = some r0) (ok_a0 : okr kC NC 10 a0 = true) : hM l D ay kC NC ad yX10_knows cX10_knows 3 ((some .boolean)) (rmK 1 21) [.ref (ad a0), .int l1, .int l2] σ (cI D ay kC NC ad r0 σ) := by
  refine hM_in (by decide) hi (Nat.le_of_ble_eq_true rfl) ?_
  intro p e s m below meth c G hm w ls hl
  exact B_X10_knows_0 a0 l1 l2 σ G hm ok_a0 hf w (lv_sub hl [0, 1, 2] rfl)

/-! HillDrums.World.isAble(II)Z -/
def DL_X10_isAble_0 : List (Nat × Instr × Nat) := [(0, .aload_n 0, 1), (1, .getfield 33, 3), (4, .bipush 60, 2), (6, .if_icmp .ge 16, 3), (9, .aload_n 0, 1), (10, .iload_n 1, 1), (11, .iload_n 2, 1), (12, .invokevirtual 71, 3), (15, .ifCond .eq 7, 3), (18, .iconst 1, 1), (19, .goto 4, 3), (22, .iconst 0, 1), (23, .ireturn, 1)]
set_option maxRecDepth 100000 in
theorem dec_X10_isAble_0 : dcs cX10_isAble DL_X10_isAble_0 = true := by decide +kernel
theorem lb_X10_isAble : lkB yX10_isAble cX10_isAble 3 ((some .boolean)) 2 := ⟨q_744, q_8, ⟨by decide, by decide⟩, by decide +kernel⟩
theorem lv_X10_isAble : lkV yX10_isAble := ⟨q_743, qs_40⟩
def F_X10_isAble_23 (s0 : Int32) (σ : hSt) : Option (Int32) :=
cG (isB s0) <|
some (s0)
def F_X10_isAble_22  (σ : hSt) : Option (Int32) :=
F_X10_isAble_23 (0 : Int32) σ
def F_X10_isAble (a0 : Nat) (l1 : Int32) (l2 : Int32) (σ : hSt) : Option (Int32) :=
if (60 : Int32) ≤ (σ.1 a0 7) then (
F_X10_isAble_22  σ) else (
(F_X10_knows a0 l1 l2 σ).bind fun v3 =>
if v3 = 0 then (
F_X10_isAble_22  σ) else (
F_X10_isAble_23 (1 : Int32) σ))
section
variable {p : Program} {l : Launch} {e : Env} {s : State} {m : MethodId} {args : Array Value} {below : List Frame} {meth : Method} {c : Code} {D : va_G} {ay : Nat → ClassId} {ad : Nat → Nat}
set_option maxRecDepth 100000 in
set_option maxHeartbeats 4000000 in
theorem B_X10_isAble_23 {H : Heap} {locs : List Loc} {ls : Array Slot} {r0 : Int32} (s0 : Int32) (σ : hSt) (G : Gx p m c cX10_isAble 3 s args RX10 D ay NC ad (aN NC ad)) (hm : meth.sig.returnType = (some .boolean) ∧ meth.locks = false)  (hf : F_X10_isAble_23 s0 σ = some r0)  (w : Wd D ay kC NC ad (aN NC ad) s σ H locs) (hl : lv_has ls 3 []) : W p l e (rmK 2 43) s m args below meth c H locs 0 0 (MQ below (cI D ay kC NC ad r0 σ) args s 0 0 (aN NC ad)) (F0 m 23 ls [.int s0]) := by
  unfold F_X10_isAble_23 at hf
  obtain ⟨h1, hf⟩ := cG_some hf
  have e9 := Option.some.inj hf
  exact r_zret (isB_nar h1) G w hm e9 rfl (dcs_get dec_X10_isAble_0 12 rfl)
set_option maxRecDepth 100000 in
set_option maxHeartbeats 4000000 in
theorem B_X10_isAble_22 {H : Heap} {locs : List Loc} {ls : Array Slot} {r0 : Int32}  (σ : hSt) (G : Gx p m c cX10_isAble 3 s args RX10 D ay NC ad (aN NC ad)) (hm : meth.sig.returnType = (some .boolean) ∧ meth.locks = false)  (hf : F_X10_isAble_22  σ = some r0)  (w : Wd D ay kC NC ad (aN NC ad) s σ H locs) (hl : lv_has ls 3 []) : W p l e (rmK 2 43) s m args below meth c H locs 0 0 (MQ below (cI D ay kC NC ad r0 σ) args s 0 0 (aN NC ad)) (F0 m 22 ls []) := by
  unfold F_X10_isAble_22 at hf
  refine lv_iconst (v := (0 : Int32)) G.hx G.hb (dcs_get dec_X10_isAble_0 11 rfl) (by decide) ?_
  exact B_X10_isAble_23 (0 : Int32) σ G hm  hf  w (lv_sub hl [] rfl)
set_option maxRecDepth 100000 in
set_option maxHeartbeats 4000000 in
theorem B_X10_isAble_0 {H : Heap} {locs : List Loc} {ls : Array Slot} {r0 : Int32} (a0 : Nat) (l1 : Int32) (l2 : Int32) (σ : hSt) (G : Gx p m c cX10_isAble 3 s args RX10 D ay NC ad (aN NC ad)) (hm : meth.sig.returnType = (some .boolean) ∧ meth.locks = false) (ok_a0 : okr kC NC 10 a0 = true) (hf : F_X10_isAble a0 l1 l2 σ = some r0)  (w : Wd D ay kC NC ad (aN NC ad) s σ H locs) (hl : lv_has ls 3 [(0, .ref (ad a0)), (1, .int l1), (2, .int l2)]) : W p l e (rmK 2 43) s m args below meth c H locs 0 0 (MQ below (cI D ay kC NC ad r0 σ) args s 0 0 (aN NC ad)) (F0 m 0 ls []) := by
  have k_a0 := okr_in ok_a0
  unfold F_X10_isAble at hf
  refine lv_aload_n G.hx G.hb (dcs_get dec_X10_isAble_0 0 rfl) rfl (lv_at hl 0 rfl) ?_
  refine r_geti (k := 7) cls10 fi_10_7.1 fi_10_7.2 q_246 G w k_a0.1 k_a0.2 (dcs_get dec_X10_isAble_0 1 rfl) ?_
  refine lv_bipush (v := (60 : Int32)) G.hx G.hb (dcs_get dec_X10_isAble_0 2 rfl) (by decide) ?_
  refine lv_icmp_ge (tgt := 22) G.hx G.hb (dcs_get dec_X10_isAble_0 3 rfl) (by decide) (fun hc => ?_) (fun hc => ?_)
  · rw [if_pos hc] at hf
    exact B_X10_isAble_22  σ G hm  hf  w (lv_sub hl [] rfl)
  · rw [if_neg hc] at hf
    refine lv_aload_n G.hx G.hb (dcs_get dec_X10_isAble_0 4 rfl) rfl (lv_at hl 0 rfl) ?_
    refine lv_iload_n G.hx G.hb (dcs_get dec_X10_isAble_0 5 rfl) rfl (lv_at hl 1 rfl) ?_
    refine lv_iload_n G.hx G.hb (dcs_get dec_X10_isAble_0 6 rfl) rfl (lv_at hl 2 rfl) ?_
    obtain ⟨v3, h2, hf⟩ := cB_some hf
    refine a_i (k_V (As := [.int l1, .int l2]) (rest := []) cls10 lb_X10_knows lv_X10_knows q_745 (C_X10_knows G.2.2.1 a0 l1 l2 σ h2 ok_a0) ⟨(Nat.le_of_ble_eq_true rfl), (Nat.le_of_ble_eq_true rfl)⟩ G w k_a0.1 k_a0.2 rfl rfl hl.1 (Nat.le_of_ble_eq_true rfl) (dcs_get dec_X10_isAble_0 7 rfl) ⟨Nat.le_refl _, Nat.le_refl _⟩) G w (fun H locs w => ?_)
    refine lv_if_eq (tgt := 22) G.hx G.hb (dcs_get dec_X10_isAble_0 8 rfl) (by decide) (fun hc => ?_) (fun hc => ?_)
    · rw [if_pos hc] at hf
      exact B_X10_isAble_22  σ G hm  hf  w (lv_sub hl [] rfl)
    · rw [if_neg hc] at hf
      refine lv_iconst (v := (1 : Int32)) G.hx G.hb (dcs_get dec_X10_isAble_0 9 rfl) (by decide) ?_
      refine lv_goto (tgt := 23) G.hx G.hb (dcs_get dec_X10_isAble_0 10 rfl) (by decide) ?_
      exact B_X10_isAble_23 (1 : Int32) σ G hm  hf  w (lv_sub hl [] rfl)
end
set_option maxRecDepth 100000 in
set_option maxHeartbeats 4000000 in
theorem C_X10_isAble {l : Launch} {D : va_G} {ay : Nat → ClassId} {ad : Nat → Nat} (hi : hInj NC ad) (a0 : Nat) (l1 : Int32) (l2 : Int32) (σ : hSt) {r0 : Int32} (hf : F_X10_isAble a0 l1 l2 σ = some r0) (ok_a0 : okr kC NC 10 a0 = true) : hM l D ay kC NC ad yX10_isAble cX10_isAble 3 ((some .boolean)) (rmK 2 43) [.ref (ad a0), .int l1, .int l2] σ (cI D ay kC NC ad r0 σ) := by
  refine hM_in (by decide) hi (Nat.le_of_ble_eq_true rfl) ?_
  intro p e s m below meth c G hm w ls hl
  exact B_X10_isAble_0 a0 l1 l2 σ G hm ok_a0 hf w (lv_sub hl [0, 1, 2] rfl)

/-! HillDrums.World.isAnswer(IIIZ)Z -/
def DL_X10_isAnswer_0 : List (Nat × Instr × Nat) := [(0, .iconst 1, 1), (1, .iload_n 2, 1), (2, .iload_n 3, 1), (3, .invokestatic 61, 3), (6, .ishl, 1), (7, .istore 5, 2), (9, .iload_n 1, 1), (10, .tableswitch 72 0 2 #[26, 28, 49], 26), (36, .iconst 0, 1), (37, .ireturn, 1), (38, .aload_n 0, 1), (39, .getfield 21, 3), (42, .aload_n 0, 1), (43, .getfield 24, 3), (46, .ior, 1), (47, .iload 5, 2), (49, .iand, 1), (50, .ifCond .eq 7, 3), (53, .iconst 1, 1), (54, .goto 4, 3), (57, .iconst 0, 1), (58, .ireturn, 1), (59, .aload_n 0, 1), (60, .getfield 21, 3), (63, .aload_n 0, 1), (64, .getfield 24, 3), (67, .ior, 1), (68, .ldc 75, 2), (70, .iload_n 2, 1), (71, .ishl, 1), (72, .iand, 1), (73, .ifCond .eq 7, 3), (76, .iconst 1, 1), (77, .goto 4, 3), (80, .iconst 0, 1), (81, .ireturn, 1), (82, .iload 4, 2), (84, .ifCond .eq 10, 3), (87, .aload_n 0, 1), (88, .getfield 21, 3)]
set_option maxRecDepth 100000 in
theorem dec_X10_isAnswer_0 : dcs cX10_isAnswer DL_X10_isAnswer_0 = true := by decide +kernel
def DL_X10_isAnswer_1 : List (Nat × Instr × Nat) := [(91, .goto 7, 3), (94, .aload_n 0, 1), (95, .getfield 24, 3), (98, .iload 5, 2), (100, .iand, 1), (101, .ifCond .eq 7, 3), (104, .iconst 1, 1), (105, .goto 4, 3), (108, .iconst 0, 1), (109, .ireturn, 1)]
set_option maxRecDepth 100000 in
theorem dec_X10_isAnswer_1 : dcs cX10_isAnswer DL_X10_isAnswer_1 = true := by decide +kernel
theorem lb_X10_isAnswer : lkB yX10_isAnswer cX10_isAnswer 6 ((some .boolean)) 4 := ⟨q_749, q_8, ⟨by decide, by decide⟩, by decide +kernel⟩
theorem lv_X10_isAnswer : lkV yX10_isAnswer := ⟨q_748, qs_41⟩
def F_X10_isAnswer_109 (s0 : Int32) (σ : hSt) : Option (Int32) :=
cG (isB s0) <|
some (s0)
def F_X10_isAnswer_98 (l5 : Int32) (s0 : Int32) (σ : hSt) : Option (Int32) :=
if (s0 &&& l5) = 0 then (
F_X10_isAnswer_109 (0 : Int32) σ) else (
F_X10_isAnswer_109 (1 : Int32) σ)
def F_X10_isAnswer_81 (s0 : Int32) (σ : hSt) : Option (Int32) :=
cG (isB s0) <|
some (s0)
def F_X10_isAnswer_58 (s0 : Int32) (σ : hSt) : Option (Int32) :=
cG (isB s0) <|
some (s0)
def F_X10_isAnswer (a0 : Nat) (l1 : Int32) (l2 : Int32) (l3 : Int32) (l4 : Int32) (σ : hSt) : Option (Int32) :=
(F_X11_pairOf l2 l3 σ).bind fun v5 =>
cL ((1 : Int32) <<< (v5 &&& 31)) fun v6 =>
if l1 = (0 : Int32) then (
some ((0 : Int32))) else (
if l1 = (1 : Int32) then (
if (((σ.1 a0 3) ||| (σ.1 a0 4)) &&& v6) = 0 then (
F_X10_isAnswer_58 (0 : Int32) σ) else (
F_X10_isAnswer_58 (1 : Int32) σ)) else (
if l1 = (2 : Int32) then (
if (((σ.1 a0 3) ||| (σ.1 a0 4)) &&& ((266305 : Int32) <<< (l2 &&& 31))) = 0 then (
F_X10_isAnswer_81 (0 : Int32) σ) else (
F_X10_isAnswer_81 (1 : Int32) σ)) else (
if l4 = 0 then (
F_X10_isAnswer_98 v6 (σ.1 a0 4) σ) else (
F_X10_isAnswer_98 v6 (σ.1 a0 3) σ))))
section
variable {p : Program} {l : Launch} {e : Env} {s : State} {m : MethodId} {args : Array Value} {below : List Frame} {meth : Method} {c : Code} {D : va_G} {ay : Nat → ClassId} {ad : Nat → Nat}
set_option maxRecDepth 100000 in
set_option maxHeartbeats 4000000 in
theorem B_X10_isAnswer_109 {H : Heap} {locs : List Loc} {ls : Array Slot} {r0 : Int32} (s0 : Int32) (σ : hSt) (G : Gx p m c cX10_isAnswer 6 s args RX10 D ay NC ad (aN NC ad)) (hm : meth.sig.returnType = (some .boolean) ∧ meth.locks = false)  (hf : F_X10_isAnswer_109 s0 σ = some r0)  (w : Wd D ay kC NC ad (aN NC ad) s σ H locs) (hl : lv_has ls 6 []) : W p l e (rmK 1 21) s m args below meth c H locs 0 0 (MQ below (cI D ay kC NC ad r0 σ) args s 0 0 (aN NC ad)) (F0 m 109 ls [.int s0]) := by
  unfold F_X10_isAnswer_109 at hf
  obtain ⟨h1, hf⟩ := cG_some hf
  have e9 := Option.some.inj hf
  exact r_zret (isB_nar h1) G w hm e9 rfl (dcs_get dec_X10_isAnswer_1 9 rfl)
set_option maxRecDepth 100000 in
set_option maxHeartbeats 4000000 in
theorem B_X10_isAnswer_98 {H : Heap} {locs : List Loc} {ls : Array Slot} {r0 : Int32} (l5 : Int32) (s0 : Int32) (σ : hSt) (G : Gx p m c cX10_isAnswer 6 s args RX10 D ay NC ad (aN NC ad)) (hm : meth.sig.returnType = (some .boolean) ∧ meth.locks = false)  (hf : F_X10_isAnswer_98 l5 s0 σ = some r0)  (w : Wd D ay kC NC ad (aN NC ad) s σ H locs) (hl : lv_has ls 6 [(5, .int l5)]) : W p l e (rmK 1 21) s m args below meth c H locs 0 0 (MQ below (cI D ay kC NC ad r0 σ) args s 0 0 (aN NC ad)) (F0 m 98 ls [.int s0]) := by
  unfold F_X10_isAnswer_98 at hf
  refine lv_iload G.hx G.hb (dcs_get dec_X10_isAnswer_1 3 rfl) (lv_at hl 0 rfl) ?_
  refine lv_iand G.hx G.hb (dcs_get dec_X10_isAnswer_1 4 rfl) ?_
  refine lv_if_eq (tgt := 108) G.hx G.hb (dcs_get dec_X10_isAnswer_1 5 rfl) (by decide) (fun hc => ?_) (fun hc => ?_)
  · rw [if_pos hc] at hf
    refine lv_iconst (v := (0 : Int32)) G.hx G.hb (dcs_get dec_X10_isAnswer_1 8 rfl) (by decide) ?_
    exact B_X10_isAnswer_109 (0 : Int32) σ G hm  hf  w (lv_sub hl [] rfl)
  · rw [if_neg hc] at hf
    refine lv_iconst (v := (1 : Int32)) G.hx G.hb (dcs_get dec_X10_isAnswer_1 6 rfl) (by decide) ?_
    refine lv_goto (tgt := 109) G.hx G.hb (dcs_get dec_X10_isAnswer_1 7 rfl) (by decide) ?_
    exact B_X10_isAnswer_109 (1 : Int32) σ G hm  hf  w (lv_sub hl [] rfl)
set_option maxRecDepth 100000 in
set_option maxHeartbeats 4000000 in
theorem B_X10_isAnswer_81 {H : Heap} {locs : List Loc} {ls : Array Slot} {r0 : Int32} (s0 : Int32) (σ : hSt) (G : Gx p m c cX10_isAnswer 6 s args RX10 D ay NC ad (aN NC ad)) (hm : meth.sig.returnType = (some .boolean) ∧ meth.locks = false)  (hf : F_X10_isAnswer_81 s0 σ = some r0)  (w : Wd D ay kC NC ad (aN NC ad) s σ H locs) (hl : lv_has ls 6 []) : W p l e (rmK 1 21) s m args below meth c H locs 0 0 (MQ below (cI D ay kC NC ad r0 σ) args s 0 0 (aN NC ad)) (F0 m 81 ls [.int s0]) := by
  unfold F_X10_isAnswer_81 at hf
  obtain ⟨h2, hf⟩ := cG_some hf
  have e9 := Option.some.inj hf
  exact r_zret (isB_nar h2) G w hm e9 rfl (dcs_get dec_X10_isAnswer_0 35 rfl)
set_option maxRecDepth 100000 in
set_option maxHeartbeats 4000000 in
theorem B_X10_isAnswer_58 {H : Heap} {locs : List Loc} {ls : Array Slot} {r0 : Int32} (s0 : Int32) (σ : hSt) (G : Gx p m c cX10_isAnswer 6 s args RX10 D ay NC ad (aN NC ad)) (hm : meth.sig.returnType = (some .boolean) ∧ meth.locks = false)  (hf : F_X10_isAnswer_58 s0 σ = some r0)  (w : Wd D ay kC NC ad (aN NC ad) s σ H locs) (hl : lv_has ls 6 []) : W p l e (rmK 1 21) s m args below meth c H locs 0 0 (MQ below (cI D ay kC NC ad r0 σ) args s 0 0 (aN NC ad)) (F0 m 58 ls [.int s0]) := by
  unfold F_X10_isAnswer_58 at hf
  obtain ⟨h3, hf⟩ := cG_some hf
  have e9 := Option.some.inj hf
  exact r_zret (isB_nar h3) G w hm e9 rfl (dcs_get dec_X10_isAnswer_0 21 rfl)
set_option maxRecDepth 100000 in
set_option maxHeartbeats 4000000 in
theorem B_X10_isAnswer_0 {H : Heap} {locs : List Loc} {ls : Array Slot} {r0 : Int32} (a0 : Nat) (l1 : Int32) (l2 : Int32) (l3 : Int32) (l4 : Int32) (σ : hSt) (G : Gx p m c cX10_isAnswer 6 s args RX10 D ay NC ad (aN NC ad)) (hm : meth.sig.returnType = (some .boolean) ∧ meth.locks = false) (ok_a0 : okr kC NC 10 a0 = true) (hf : F_X10_isAnswer a0 l1 l2 l3 l4 σ = some r0)  (w : Wd D ay kC NC ad (aN NC ad) s σ H locs) (hl : lv_has ls 6 [(0, .ref (ad a0)), (1, .int l1), (2, .int l2), (3, .int l3), (4, .int l4)]) : W p l e (rmK 1 21) s m args below meth c H locs 0 0 (MQ below (cI D ay kC NC ad r0 σ) args s 0 0 (aN NC ad)) (F0 m 0 ls []) := by
  have k_a0 := okr_in ok_a0
  unfold F_X10_isAnswer at hf
  refine lv_iconst (v := (1 : Int32)) G.hx G.hb (dcs_get dec_X10_isAnswer_0 0 rfl) (by decide) ?_
  refine lv_iload_n G.hx G.hb (dcs_get dec_X10_isAnswer_0 1 rfl) rfl (lv_at hl 2 rfl) ?_
  refine lv_iload_n G.hx G.hb (dcs_get dec_X10_isAnswer_0 2 rfl) rfl (lv_at hl 3 rfl) ?_
  obtain ⟨v5, h4, hf⟩ := cB_some hf
  refine a_i (k_SN (As := [.int l2, .int l3]) (rest := [.int (1 : Int32)]) lb_X11_pairOf q_389 nm_388 (C_X11_pairOf G.2.2.1 l2 l3 σ h4 ) ⟨(Nat.le_of_ble_eq_true rfl), (Nat.le_of_ble_eq_true rfl)⟩ G w rfl rfl hl.1 (Nat.le_of_ble_eq_true rfl) (dcs_get dec_X10_isAnswer_0 3 rfl) ⟨Nat.le_refl _, Nat.le_refl _⟩) G w (fun H locs w => ?_)
  refine lv_ishl G.hx G.hb (dcs_get dec_X10_isAnswer_0 4 rfl) ?_
  obtain ⟨v6, e_v6, hf⟩ := cL_some hf
  refine r_topi e_v6 ?_
  refine lv_istore (lv' := [(5, .int v6), (0, .ref (ad a0)), (1, .int l1), (2, .int l2), (3, .int l3), (4, .int l4)]) G.hx G.hb (dcs_get dec_X10_isAnswer_0 5 rfl) hl (by decide) rfl (fun ls hl => ?_)
  refine lv_iload_n G.hx G.hb (dcs_get dec_X10_isAnswer_0 6 rfl) rfl (lv_at hl 2 rfl) ?_
  by_cases hc0 : l1 = (0 : Int32)
  · rw [if_pos hc0] at hf
    refine r_tIn (k := (0 : Int32)) (tgt := 36) G.hx G.hb (dcs_get dec_X10_isAnswer_0 7 rfl) hc0 (by decide) rfl (by decide) ?_
    refine lv_iconst (v := (0 : Int32)) G.hx G.hb (dcs_get dec_X10_isAnswer_0 8 rfl) (by decide) ?_
    have e9 := Option.some.inj hf
    exact r_zret rfl G w hm e9 rfl (dcs_get dec_X10_isAnswer_0 9 rfl)
  rw [if_neg hc0] at hf
  by_cases hc1 : l1 = (1 : Int32)
  · rw [if_pos hc1] at hf
    refine r_tIn (k := (1 : Int32)) (tgt := 38) G.hx G.hb (dcs_get dec_X10_isAnswer_0 7 rfl) hc1 (by decide) rfl (by decide) ?_
    refine lv_aload_n G.hx G.hb (dcs_get dec_X10_isAnswer_0 10 rfl) rfl (lv_at hl 1 rfl) ?_
    refine r_geti (k := 3) cls10 fi_10_3.1 fi_10_3.2 q_242 G w k_a0.1 k_a0.2 (dcs_get dec_X10_isAnswer_0 11 rfl) ?_
    refine lv_aload_n G.hx G.hb (dcs_get dec_X10_isAnswer_0 12 rfl) rfl (lv_at hl 1 rfl) ?_
    refine r_geti (k := 4) cls10 fi_10_4.1 fi_10_4.2 q_243 G w k_a0.1 k_a0.2 (dcs_get dec_X10_isAnswer_0 13 rfl) ?_
    refine lv_ior G.hx G.hb (dcs_get dec_X10_isAnswer_0 14 rfl) ?_
    refine lv_iload G.hx G.hb (dcs_get dec_X10_isAnswer_0 15 rfl) (lv_at hl 0 rfl) ?_
    refine lv_iand G.hx G.hb (dcs_get dec_X10_isAnswer_0 16 rfl) ?_
    refine lv_if_eq (tgt := 57) G.hx G.hb (dcs_get dec_X10_isAnswer_0 17 rfl) (by decide) (fun hc => ?_) (fun hc => ?_)
    · rw [if_pos hc] at hf
      refine lv_iconst (v := (0 : Int32)) G.hx G.hb (dcs_get dec_X10_isAnswer_0 20 rfl) (by decide) ?_
      exact B_X10_isAnswer_58 (0 : Int32) σ G hm  hf  w (lv_sub hl [] rfl)
    · rw [if_neg hc] at hf
      refine lv_iconst (v := (1 : Int32)) G.hx G.hb (dcs_get dec_X10_isAnswer_0 18 rfl) (by decide) ?_
      refine lv_goto (tgt := 58) G.hx G.hb (dcs_get dec_X10_isAnswer_0 19 rfl) (by decide) ?_
      exact B_X10_isAnswer_58 (1 : Int32) σ G hm  hf  w (lv_sub hl [] rfl)
  rw [if_neg hc1] at hf
  by_cases hc2 : l1 = (2 : Int32)
  · rw [if_pos hc2] at hf
    refine r_tIn (k := (2 : Int32)) (tgt := 59) G.hx G.hb (dcs_get dec_X10_isAnswer_0 7 rfl) hc2 (by decide) rfl (by decide) ?_
    refine lv_aload_n G.hx G.hb (dcs_get dec_X10_isAnswer_0 22 rfl) rfl (lv_at hl 1 rfl) ?_
    refine r_geti (k := 3) cls10 fi_10_3.1 fi_10_3.2 q_242 G w k_a0.1 k_a0.2 (dcs_get dec_X10_isAnswer_0 23 rfl) ?_
    refine lv_aload_n G.hx G.hb (dcs_get dec_X10_isAnswer_0 24 rfl) rfl (lv_at hl 1 rfl) ?_
    refine r_geti (k := 4) cls10 fi_10_4.1 fi_10_4.2 q_243 G w k_a0.1 k_a0.2 (dcs_get dec_X10_isAnswer_0 25 rfl) ?_
    refine lv_ior G.hx G.hb (dcs_get dec_X10_isAnswer_0 26 rfl) ?_
    refine lv_ldc G.hx G.hb G.hown (G.hts _ q_750) (dcs_get dec_X10_isAnswer_0 27 rfl) ?_
    refine lv_iload_n G.hx G.hb (dcs_get dec_X10_isAnswer_0 28 rfl) rfl (lv_at hl 3 rfl) ?_
    refine lv_ishl G.hx G.hb (dcs_get dec_X10_isAnswer_0 29 rfl) ?_
    refine lv_iand G.hx G.hb (dcs_get dec_X10_isAnswer_0 30 rfl) ?_
    refine lv_if_eq (tgt := 80) G.hx G.hb (dcs_get dec_X10_isAnswer_0 31 rfl) (by decide) (fun hc => ?_) (fun hc => ?_)
    · rw [if_pos hc] at hf
      refine lv_iconst (v := (0 : Int32)) G.hx G.hb (dcs_get dec_X10_isAnswer_0 34 rfl) (by decide) ?_
      exact B_X10_isAnswer_81 (0 : Int32) σ G hm  hf  w (lv_sub hl [] rfl)
    · rw [if_neg hc] at hf
      refine lv_iconst (v := (1 : Int32)) G.hx G.hb (dcs_get dec_X10_isAnswer_0 32 rfl) (by decide) ?_
      refine lv_goto (tgt := 81) G.hx G.hb (dcs_get dec_X10_isAnswer_0 33 rfl) (by decide) ?_
      exact B_X10_isAnswer_81 (1 : Int32) σ G hm  hf  w (lv_sub hl [] rfl)
  rw [if_neg hc2] at hf
  refine lv_tableOut (tgt := 82) G.hx G.hb (dcs_get dec_X10_isAnswer_0 7 rfl) (ts_out [(0 : Int32), (1 : Int32), (2 : Int32)] (by intro z h1 h2; simp only [List.map]; rcases (show z = 0 ∨ z = 1 ∨ z = 2 by omega) with h4 | h4 | h4 <;> subst h4 <;> decide) (by simp only [List.forall_mem_cons]; exact ⟨hc0, hc1, hc2, fun _ h => absurd h List.not_mem_nil⟩)) (by decide) ?_
  refine lv_iload G.hx G.hb (dcs_get dec_X10_isAnswer_0 36 rfl) (lv_at hl 5 rfl) ?_
  refine lv_if_eq (tgt := 94) G.hx G.hb (dcs_get dec_X10_isAnswer_0 37 rfl) (by decide) (fun hc => ?_) (fun hc => ?_)
  · rw [if_pos hc] at hf
    refine lv_aload_n G.hx G.hb (dcs_get dec_X10_isAnswer_1 1 rfl) rfl (lv_at hl 1 rfl) ?_
    refine r_geti (k := 4) cls10 fi_10_4.1 fi_10_4.2 q_243 G w k_a0.1 k_a0.2 (dcs_get dec_X10_isAnswer_1 2 rfl) ?_
    exact B_X10_isAnswer_98 v6 (σ.1 a0 4) σ G hm  hf  w (lv_sub hl [0] rfl)
  · rw [if_neg hc] at hf
    refine lv_aload_n G.hx G.hb (dcs_get dec_X10_isAnswer_0 38 rfl) rfl (lv_at hl 1 rfl) ?_
    refine r_geti (k := 3) cls10 fi_10_3.1 fi_10_3.2 q_242 G w k_a0.1 k_a0.2 (dcs_get dec_X10_isAnswer_0 39 rfl) ?_
    refine lv_goto (tgt := 98) G.hx G.hb (dcs_get dec_X10_isAnswer_1 0 rfl) (by decide) ?_
    exact B_X10_isAnswer_98 v6 (σ.1 a0 3) σ G hm  hf  w (lv_sub hl [0] rfl)
end
set_option maxRecDepth 100000 in
set_option maxHeartbeats 4000000 in
theorem C_X10_isAnswer {l : Launch} {D : va_G} {ay : Nat → ClassId} {ad : Nat → Nat} (hi : hInj NC ad) (a0 : Nat) (l1 : Int32) (l2 : Int32) (l3 : Int32) (l4 : Int32) (σ : hSt) {r0 : Int32} (hf : F_X10_isAnswer a0 l1 l2 l3 l4 σ = some r0) (ok_a0 : okr kC NC 10 a0 = true) : hM l D ay kC NC ad yX10_isAnswer cX10_isAnswer 6 ((some .boolean)) (rmK 1 21) [.ref (ad a0), .int l1, .int l2, .int l3, .int l4] σ (cI D ay kC NC ad r0 σ) := by
  refine hM_in (by decide) hi (Nat.le_of_ble_eq_true rfl) ?_
  intro p e s m below meth c G hm w ls hl
  exact B_X10_isAnswer_0 a0 l1 l2 l3 l4 σ G hm ok_a0 hf w (lv_sub hl [0, 1, 2, 3, 4] rfl)

/-! HillDrums.World.copy(LHillDrums$World;)V -/
def DL_X10_copy_0 : List (Nat × Instr × Nat) := [(0, .aload_n 0, 1), (1, .aload_n 1, 1), (2, .getfield 9, 3), (5, .putfield 9, 3), (8, .aload_n 0, 1), (9, .aload_n 1, 1), (10, .getfield 15, 3), (13, .putfield 15, 3), (16, .aload_n 0, 1), (17, .aload_n 1, 1), (18, .getfield 18, 3), (21, .putfield 18, 3), (24, .aload_n 0, 1), (25, .aload_n 1, 1), (26, .getfield 21, 3), (29, .putfield 21, 3), (32, .aload_n 0, 1), (33, .aload_n 1, 1), (34, .getfield 24, 3), (37, .putfield 24, 3), (40, .aload_n 0, 1), (41, .aload_n 1, 1), (42, .getfield 27, 3), (45, .putfield 27, 3), (48, .aload_n 0, 1), (49, .aload_n 1, 1), (50, .getfield 30, 3), (53, .putfield 30, 3), (56, .aload_n 0, 1), (57, .aload_n 1, 1), (58, .getfield 33, 3), (61, .putfield 33, 3), (64, .aload_n 0, 1), (65, .aload_n 1, 1), (66, .getfield 36, 3), (69, .putfield 36, 3), (72, .aload_n 1, 1), (73, .getfield 39, 3), (76, .iconst 0, 1), (77, .aload_n 0, 1)]
set_option maxRecDepth 100000 in
theorem dec_X10_copy_0 : dcs cX10_copy DL_X10_copy_0 = true := by decide +kernel
def DL_X10_copy_1 : List (Nat × Instr × Nat) := [(78, .getfield 39, 3), (81, .iconst 0, 1), (82, .bipush 24, 2), (84, .invokestatic 65, 3), (87, .aload_n 1, 1), (88, .getfield 43, 3), (91, .iconst 0, 1), (92, .aload_n 0, 1), (93, .getfield 43, 3), (96, .iconst 0, 1), (97, .bipush 24, 2), (99, .invokestatic 65, 3), (102, .aload_n 1, 1), (103, .getfield 46, 3), (106, .iconst 0, 1), (107, .aload_n 0, 1), (108, .getfield 46, 3), (111, .iconst 0, 1), (112, .bipush 60, 2), (114, .invokestatic 65, 3), (117, .return_, 1)]
set_option maxRecDepth 100000 in
theorem dec_X10_copy_1 : dcs cX10_copy DL_X10_copy_1 = true := by decide +kernel
theorem lb_X10_copy : lkB yX10_copy cX10_copy 2 (none) 1 := ⟨q_766, q_8, ⟨by decide, by decide⟩, by decide +kernel⟩
theorem lv_X10_copy : lkV yX10_copy := ⟨q_765, qs_44⟩
def F_X10_copy (a0 : Nat) (a1 : Nat) (σ : hSt) : Option (hSt) :=
cL (uI σ a0 0 (σ.1 a1 0)) fun σ1 =>
cL (uI σ1 a0 1 (σ1.1 a1 1)) fun σ2 =>
cL (uI σ2 a0 2 (σ2.1 a1 2)) fun σ3 =>
cL (uI σ3 a0 3 (σ3.1 a1 3)) fun σ4 =>
cL (uI σ4 a0 4 (σ4.1 a1 4)) fun σ5 =>
cL (uI σ5 a0 5 (σ5.1 a1 5)) fun σ6 =>
cL (uI σ6 a0 6 (σ6.1 a1 6)) fun σ7 =>
cL (uI σ7 a0 7 (σ7.1 a1 7)) fun σ8 =>
cL (uI σ8 a0 8 (σ8.1 a1 8)) fun σ9 =>
cR (σ9.2.2 a1 9) (okr kC NC 101) fun z10 =>
cR (σ9.2.2 a0 9) (okr kC NC 101) fun z11 =>
cG (cpOk (0 : Int32) (0 : Int32) (24 : Int32) (kC z10).2 (kC z11).2) <|
cL (uA σ9 z11 (va_cpy (σ9.1 z10) (σ9.1 z11) (0 : Int32).toNatClampNeg (0 : Int32).toNatClampNeg (24 : Int32).toNatClampNeg)) fun σ13 =>
cR (σ13.2.2 a1 10) (okr kC NC 101) fun z14 =>
cR (σ13.2.2 a0 10) (okr kC NC 101) fun z15 =>
cG (cpOk (0 : Int32) (0 : Int32) (24 : Int32) (kC z14).2 (kC z15).2) <|
cL (uA σ13 z15 (va_cpy (σ13.1 z14) (σ13.1 z15) (0 : Int32).toNatClampNeg (0 : Int32).toNatClampNeg (24 : Int32).toNatClampNeg)) fun σ17 =>
cR (σ17.2.2 a1 11) (okr kC NC 101) fun z18 =>
cR (σ17.2.2 a0 11) (okr kC NC 101) fun z19 =>
cG (cpOk (0 : Int32) (0 : Int32) (60 : Int32) (kC z18).2 (kC z19).2) <|
cL (uA σ17 z19 (va_cpy (σ17.1 z18) (σ17.1 z19) (0 : Int32).toNatClampNeg (0 : Int32).toNatClampNeg (60 : Int32).toNatClampNeg)) fun σ21 =>
some (σ21)
section
variable {p : Program} {l : Launch} {e : Env} {s : State} {m : MethodId} {args : Array Value} {below : List Frame} {meth : Method} {c : Code} {D : va_G} {ay : Nat → ClassId} {ad : Nat → Nat}
set_option maxRecDepth 100000 in
set_option maxHeartbeats 4000000 in
theorem B_X10_copy_0 {H : Heap} {locs : List Loc} {ls : Array Slot} {σ0 : hSt} (a0 : Nat) (a1 : Nat) (σ : hSt) (G : Gx p m c cX10_copy 2 s args RX10 D ay NC ad (aN NC ad)) (hm : meth.sig.returnType = none ∧ meth.locks = false) (ok_a0 : okr kC NC 10 a0 = true) (ok_a1 : okr kC NC 10 a1 = true) (hf : F_X10_copy a0 a1 σ = some σ0)  (w : Wd D ay kC NC ad (aN NC ad) s σ H locs) (hl : lv_has ls 2 [(0, .ref (ad a0)), (1, .ref (ad a1))]) : W p l e (rmK 1 60) s m args below meth c H locs 0 0 (MQ below (cV D ay kC NC ad σ0) args s 0 0 (aN NC ad)) (F0 m 0 ls []) := by
  have k_a0 := okr_in ok_a0
  have k_a1 := okr_in ok_a1
  unfold F_X10_copy at hf
  refine lv_aload_n G.hx G.hb (dcs_get dec_X10_copy_0 0 rfl) rfl (lv_at hl 0 rfl) ?_
  refine lv_aload_n G.hx G.hb (dcs_get dec_X10_copy_0 1 rfl) rfl (lv_at hl 1 rfl) ?_
  refine r_geti (k := 0) cls10 fi_10_0.1 fi_10_0.2 q_233 G w k_a1.1 k_a1.2 (dcs_get dec_X10_copy_0 2 rfl) ?_
  obtain ⟨σ1, e_σ1, hf⟩ := cL_some hf
  refine r_puti (k := 0) cls10 ct10 fi_10_0.1 fi_10_0.2 fp_10_0.1 fp_10_0.2 q_233 rfl rfl G w k_a0.1 k_a0.2 (dcs_get dec_X10_copy_0 3 rfl) (fun H locs w => ?_)
  have w := Wd.nm e_σ1 w
  refine lv_aload_n G.hx G.hb (dcs_get dec_X10_copy_0 4 rfl) rfl (lv_at hl 0 rfl) ?_
  refine lv_aload_n G.hx G.hb (dcs_get dec_X10_copy_0 5 rfl) rfl (lv_at hl 1 rfl) ?_
  refine r_geti (k := 1) cls10 fi_10_1.1 fi_10_1.2 q_237 G w k_a1.1 k_a1.2 (dcs_get dec_X10_copy_0 6 rfl) ?_
  obtain ⟨σ2, e_σ2, hf⟩ := cL_some hf
  refine r_puti (k := 1) cls10 ct10 fi_10_1.1 fi_10_1.2 fp_10_1.1 fp_10_1.2 q_237 rfl rfl G w k_a0.1 k_a0.2 (dcs_get dec_X10_copy_0 7 rfl) (fun H locs w => ?_)
  have w := Wd.nm e_σ2 w
  refine lv_aload_n G.hx G.hb (dcs_get dec_X10_copy_0 8 rfl) rfl (lv_at hl 0 rfl) ?_
  refine lv_aload_n G.hx G.hb (dcs_get dec_X10_copy_0 9 rfl) rfl (lv_at hl 1 rfl) ?_
  refine r_geti (k := 2) cls10 fi_10_2.1 fi_10_2.2 q_240 G w k_a1.1 k_a1.2 (dcs_get dec_X10_copy_0 10 rfl) ?_
  obtain ⟨σ3, e_σ3, hf⟩ := cL_some hf
  refine r_puti (k := 2) cls10 ct10 fi_10_2.1 fi_10_2.2 fp_10_2.1 fp_10_2.2 q_240 rfl rfl G w k_a0.1 k_a0.2 (dcs_get dec_X10_copy_0 11 rfl) (fun H locs w => ?_)
  have w := Wd.nm e_σ3 w
  refine lv_aload_n G.hx G.hb (dcs_get dec_X10_copy_0 12 rfl) rfl (lv_at hl 0 rfl) ?_
  refine lv_aload_n G.hx G.hb (dcs_get dec_X10_copy_0 13 rfl) rfl (lv_at hl 1 rfl) ?_
  refine r_geti (k := 3) cls10 fi_10_3.1 fi_10_3.2 q_242 G w k_a1.1 k_a1.2 (dcs_get dec_X10_copy_0 14 rfl) ?_
  obtain ⟨σ4, e_σ4, hf⟩ := cL_some hf
  refine r_puti (k := 3) cls10 ct10 fi_10_3.1 fi_10_3.2 fp_10_3.1 fp_10_3.2 q_242 rfl rfl G w k_a0.1 k_a0.2 (dcs_get dec_X10_copy_0 15 rfl) (fun H locs w => ?_)
  have w := Wd.nm e_σ4 w
  refine lv_aload_n G.hx G.hb (dcs_get dec_X10_copy_0 16 rfl) rfl (lv_at hl 0 rfl) ?_
  refine lv_aload_n G.hx G.hb (dcs_get dec_X10_copy_0 17 rfl) rfl (lv_at hl 1 rfl) ?_
  refine r_geti (k := 4) cls10 fi_10_4.1 fi_10_4.2 q_243 G w k_a1.1 k_a1.2 (dcs_get dec_X10_copy_0 18 rfl) ?_
  obtain ⟨σ5, e_σ5, hf⟩ := cL_some hf
  refine r_puti (k := 4) cls10 ct10 fi_10_4.1 fi_10_4.2 fp_10_4.1 fp_10_4.2 q_243 rfl rfl G w k_a0.1 k_a0.2 (dcs_get dec_X10_copy_0 19 rfl) (fun H locs w => ?_)
  have w := Wd.nm e_σ5 w
  refine lv_aload_n G.hx G.hb (dcs_get dec_X10_copy_0 20 rfl) rfl (lv_at hl 0 rfl) ?_
  refine lv_aload_n G.hx G.hb (dcs_get dec_X10_copy_0 21 rfl) rfl (lv_at hl 1 rfl) ?_
  refine r_geti (k := 5) cls10 fi_10_5.1 fi_10_5.2 q_244 G w k_a1.1 k_a1.2 (dcs_get dec_X10_copy_0 22 rfl) ?_
  obtain ⟨σ6, e_σ6, hf⟩ := cL_some hf
  refine r_puti (k := 5) cls10 ct10 fi_10_5.1 fi_10_5.2 fp_10_5.1 fp_10_5.2 q_244 rfl rfl G w k_a0.1 k_a0.2 (dcs_get dec_X10_copy_0 23 rfl) (fun H locs w => ?_)
  have w := Wd.nm e_σ6 w
  refine lv_aload_n G.hx G.hb (dcs_get dec_X10_copy_0 24 rfl) rfl (lv_at hl 0 rfl) ?_
  refine lv_aload_n G.hx G.hb (dcs_get dec_X10_copy_0 25 rfl) rfl (lv_at hl 1 rfl) ?_
  refine r_geti (k := 6) cls10 fi_10_6.1 fi_10_6.2 q_245 G w k_a1.1 k_a1.2 (dcs_get dec_X10_copy_0 26 rfl) ?_
  obtain ⟨σ7, e_σ7, hf⟩ := cL_some hf
  refine r_puti (k := 6) cls10 ct10 fi_10_6.1 fi_10_6.2 fp_10_6.1 fp_10_6.2 q_245 rfl rfl G w k_a0.1 k_a0.2 (dcs_get dec_X10_copy_0 27 rfl) (fun H locs w => ?_)
  have w := Wd.nm e_σ7 w
  refine lv_aload_n G.hx G.hb (dcs_get dec_X10_copy_0 28 rfl) rfl (lv_at hl 0 rfl) ?_
  refine lv_aload_n G.hx G.hb (dcs_get dec_X10_copy_0 29 rfl) rfl (lv_at hl 1 rfl) ?_
  refine r_geti (k := 7) cls10 fi_10_7.1 fi_10_7.2 q_246 G w k_a1.1 k_a1.2 (dcs_get dec_X10_copy_0 30 rfl) ?_
  obtain ⟨σ8, e_σ8, hf⟩ := cL_some hf
  refine r_puti (k := 7) cls10 ct10 fi_10_7.1 fi_10_7.2 fp_10_7.1 fp_10_7.2 q_246 rfl rfl G w k_a0.1 k_a0.2 (dcs_get dec_X10_copy_0 31 rfl) (fun H locs w => ?_)
  have w := Wd.nm e_σ8 w
  refine lv_aload_n G.hx G.hb (dcs_get dec_X10_copy_0 32 rfl) rfl (lv_at hl 0 rfl) ?_
  refine lv_aload_n G.hx G.hb (dcs_get dec_X10_copy_0 33 rfl) rfl (lv_at hl 1 rfl) ?_
  refine r_geti (k := 8) cls10 fi_10_8.1 fi_10_8.2 q_248 G w k_a1.1 k_a1.2 (dcs_get dec_X10_copy_0 34 rfl) ?_
  obtain ⟨σ9, e_σ9, hf⟩ := cL_some hf
  refine r_puti (k := 8) cls10 ct10 fi_10_8.1 fi_10_8.2 fp_10_8.1 fp_10_8.2 q_248 rfl rfl G w k_a0.1 k_a0.2 (dcs_get dec_X10_copy_0 35 rfl) (fun H locs w => ?_)
  have w := Wd.nm e_σ9 w
  refine lv_aload_n G.hx G.hb (dcs_get dec_X10_copy_0 36 rfl) rfl (lv_at hl 1 rfl) ?_
  obtain ⟨z10, e_z10, ok_z10, hf⟩ := cR_some hf
  have k_z10 := okr_in ok_z10
  refine r_getr (k := 9) cls10 fi_10_9.1 fi_10_9.2 q_250 G w k_a1.1 k_a1.2 e_z10 (dcs_get dec_X10_copy_0 37 rfl) ?_
  refine lv_iconst (v := (0 : Int32)) G.hx G.hb (dcs_get dec_X10_copy_0 38 rfl) (by decide) ?_
  refine lv_aload_n G.hx G.hb (dcs_get dec_X10_copy_0 39 rfl) rfl (lv_at hl 0 rfl) ?_
  obtain ⟨z11, e_z11, ok_z11, hf⟩ := cR_some hf
  have k_z11 := okr_in ok_z11
  refine r_getr (k := 9) cls10 fi_10_9.1 fi_10_9.2 q_250 G w k_a0.1 k_a0.2 e_z11 (dcs_get dec_X10_copy_1 0 rfl) ?_
  refine lv_iconst (v := (0 : Int32)) G.hx G.hb (dcs_get dec_X10_copy_1 1 rfl) (by decide) ?_
  refine lv_bipush (v := (24 : Int32)) G.hx G.hb (dcs_get dec_X10_copy_1 2 rfl) (by decide) ?_
  obtain ⟨h12, hf⟩ := cG_some hf
  obtain ⟨σ13, e_σ13, hf⟩ := cL_some hf
  refine r_copy q_767 q_769 q_768 q_21 ⟨Nat.le_of_ble_eq_true rfl, Nat.le_of_ble_eq_true rfl⟩ G w k_z10.1 k_z10.2 k_z11.1 k_z11.2 h12 hl.1 (dcs_get dec_X10_copy_1 3 rfl) (fun H locs w => ?_)
  have w := Wd.nm e_σ13 w
  refine lv_aload_n G.hx G.hb (dcs_get dec_X10_copy_1 4 rfl) rfl (lv_at hl 1 rfl) ?_
  obtain ⟨z14, e_z14, ok_z14, hf⟩ := cR_some hf
  have k_z14 := okr_in ok_z14
  refine r_getr (k := 10) cls10 fi_10_10.1 fi_10_10.2 q_253 G w k_a1.1 k_a1.2 e_z14 (dcs_get dec_X10_copy_1 5 rfl) ?_
  refine lv_iconst (v := (0 : Int32)) G.hx G.hb (dcs_get dec_X10_copy_1 6 rfl) (by decide) ?_
  refine lv_aload_n G.hx G.hb (dcs_get dec_X10_copy_1 7 rfl) rfl (lv_at hl 0 rfl) ?_
  obtain ⟨z15, e_z15, ok_z15, hf⟩ := cR_some hf
  have k_z15 := okr_in ok_z15
  refine r_getr (k := 10) cls10 fi_10_10.1 fi_10_10.2 q_253 G w k_a0.1 k_a0.2 e_z15 (dcs_get dec_X10_copy_1 8 rfl) ?_
  refine lv_iconst (v := (0 : Int32)) G.hx G.hb (dcs_get dec_X10_copy_1 9 rfl) (by decide) ?_
  refine lv_bipush (v := (24 : Int32)) G.hx G.hb (dcs_get dec_X10_copy_1 10 rfl) (by decide) ?_
  obtain ⟨h16, hf⟩ := cG_some hf
  obtain ⟨σ17, e_σ17, hf⟩ := cL_some hf
  refine r_copy q_767 q_769 q_768 q_21 ⟨Nat.le_of_ble_eq_true rfl, Nat.le_of_ble_eq_true rfl⟩ G w k_z14.1 k_z14.2 k_z15.1 k_z15.2 h16 hl.1 (dcs_get dec_X10_copy_1 11 rfl) (fun H locs w => ?_)
  have w := Wd.nm e_σ17 w
  refine lv_aload_n G.hx G.hb (dcs_get dec_X10_copy_1 12 rfl) rfl (lv_at hl 1 rfl) ?_
  obtain ⟨z18, e_z18, ok_z18, hf⟩ := cR_some hf
  have k_z18 := okr_in ok_z18
  refine r_getr (k := 11) cls10 fi_10_11.1 fi_10_11.2 q_255 G w k_a1.1 k_a1.2 e_z18 (dcs_get dec_X10_copy_1 13 rfl) ?_
  refine lv_iconst (v := (0 : Int32)) G.hx G.hb (dcs_get dec_X10_copy_1 14 rfl) (by decide) ?_
  refine lv_aload_n G.hx G.hb (dcs_get dec_X10_copy_1 15 rfl) rfl (lv_at hl 0 rfl) ?_
  obtain ⟨z19, e_z19, ok_z19, hf⟩ := cR_some hf
  have k_z19 := okr_in ok_z19
  refine r_getr (k := 11) cls10 fi_10_11.1 fi_10_11.2 q_255 G w k_a0.1 k_a0.2 e_z19 (dcs_get dec_X10_copy_1 16 rfl) ?_
  refine lv_iconst (v := (0 : Int32)) G.hx G.hb (dcs_get dec_X10_copy_1 17 rfl) (by decide) ?_
  refine lv_bipush (v := (60 : Int32)) G.hx G.hb (dcs_get dec_X10_copy_1 18 rfl) (by decide) ?_
  obtain ⟨h20, hf⟩ := cG_some hf
  obtain ⟨σ21, e_σ21, hf⟩ := cL_some hf
  refine r_copy q_767 q_769 q_768 q_21 ⟨Nat.le_of_ble_eq_true rfl, Nat.le_of_ble_eq_true rfl⟩ G w k_z18.1 k_z18.2 k_z19.1 k_z19.2 h20 hl.1 (dcs_get dec_X10_copy_1 19 rfl) (fun H locs w => ?_)
  have w := Wd.nm e_σ21 w
  have e9 := Option.some.inj hf
  exact r_vret G w hm e9 (dcs_get dec_X10_copy_1 20 rfl)
end
set_option maxRecDepth 100000 in
set_option maxHeartbeats 4000000 in
theorem C_X10_copy {l : Launch} {D : va_G} {ay : Nat → ClassId} {ad : Nat → Nat} (hi : hInj NC ad) (a0 : Nat) (a1 : Nat) (σ : hSt) {σ0 : hSt} (hf : F_X10_copy a0 a1 σ = some σ0) (ok_a0 : okr kC NC 10 a0 = true) (ok_a1 : okr kC NC 10 a1 = true) : hM l D ay kC NC ad yX10_copy cX10_copy 2 (none) (rmK 1 60) [.ref (ad a0), .ref (ad a1)] σ (cV D ay kC NC ad σ0) := by
  refine hM_in (by decide) hi (Nat.le_of_ble_eq_true rfl) ?_
  intro p e s m below meth c G hm w ls hl
  exact B_X10_copy_0 a0 a1 σ G hm ok_a0 ok_a1 hf w (lv_sub hl [0, 1] rfl)

/-! HillDrums.World.noteOrigin(II)V -/
def DL_X10_noteOrigin_0 : List (Nat × Instr × Nat) := [(0, .iconst 0, 1), (1, .istore_n 3, 1), (2, .iload_n 3, 1), (3, .bipush 24, 2), (5, .if_icmp .ge 34, 3), (8, .iload_n 1, 1), (9, .iload_n 3, 1), (10, .ishr, 1), (11, .iconst 1, 1), (12, .iand, 1), (13, .ifCond .eq 20, 3), (16, .aload_n 0, 1), (17, .getfield 39, 3), (20, .iload_n 3, 1), (21, .aload_n 0, 1), (22, .getfield 9, 3), (25, .iastore, 1), (26, .aload_n 0, 1), (27, .getfield 43, 3), (30, .iload_n 3, 1), (31, .iload_n 2, 1), (32, .iastore, 1), (33, .iinc 3 1, 3), (36, .goto (-34), 3), (39, .return_, 1)]
set_option maxRecDepth 100000 in
theorem dec_X10_noteOrigin_0 : dcs cX10_noteOrigin DL_X10_noteOrigin_0 = true := by decide +kernel
theorem lb_X10_noteOrigin : lkB yX10_noteOrigin cX10_noteOrigin 4 (none) 2 := ⟨q_782, q_8, ⟨by decide, by decide⟩, by decide +kernel⟩
theorem lv_X10_noteOrigin : lkV yX10_noteOrigin := ⟨q_781, qs_47⟩
def F_X10_noteOrigin_33 (a0 : Nat) (l1 : Int32) (l2 : Int32) (l3 : Int32) (σ : hSt) : Option ((Int32 × hSt) ⊕ (hSt)) :=
cL (l3 + (1 : Int32)) fun v1 =>
some (.inl (v1, σ))
def F_X10_noteOrigin_2b (a0 : Nat) (l1 : Int32) (l2 : Int32) (l3 : Int32) (σ : hSt) : Option ((Int32 × hSt) ⊕ (hSt)) :=
if (24 : Int32) ≤ l3 then (
some (.inr (σ))) else (
if ((l1 >>> (l3 &&& 31)) &&& (1 : Int32)) = 0 then (
F_X10_noteOrigin_33 a0 l1 l2 l3 σ) else (
cR (σ.2.2 a0 9) (okr kC NC 101) fun z2 =>
cG (inb l3 (kC z2).2) <|
cL (uI σ z2 l3.toNatClampNeg (σ.1 a0 0)) fun σ4 =>
cR (σ4.2.2 a0 10) (okr kC NC 101) fun z5 =>
cG (inb l3 (kC z5).2) <|
cL (uI σ4 z5 l3.toNatClampNeg l2) fun σ7 =>
F_X10_noteOrigin_33 a0 l1 l2 l3 σ7))
def S_X10_noteOrigin_2 (a0 : Nat) (l1 : Int32) (l2 : Int32) (v : Int32 × hSt) : Option ((Int32 × hSt) ⊕ (hSt)) := F_X10_noteOrigin_2b a0 l1 l2 v.1 v.2
def F_X10_noteOrigin_2 (a0 : Nat) (l1 : Int32) (l2 : Int32) (l3 : Int32) (σ : hSt) : Option (hSt) := lp (S_X10_noteOrigin_2 a0 l1 l2) fuel (l3, σ)
def F_X10_noteOrigin (a0 : Nat) (l1 : Int32) (l2 : Int32) (σ : hSt) : Option (hSt) :=
F_X10_noteOrigin_2 a0 l1 l2 (0 : Int32) σ
section
variable {p : Program} {l : Launch} {e : Env} {s : State} {m : MethodId} {args : Array Value} {below : List Frame} {meth : Method} {c : Code} {D : va_G} {ay : Nat → ClassId} {ad : Nat → Nat}
set_option maxRecDepth 100000 in
set_option maxHeartbeats 4000000 in
theorem B_X10_noteOrigin_33 {H : Heap} {locs : List Loc} {ls : Array Slot} {σ0 : hSt} {o : (Int32 × hSt) ⊕ (hSt)} (a0 : Nat) (l1 : Int32) (l2 : Int32) (l3 : Int32) (σ : hSt) (G : Gx p m c cX10_noteOrigin 4 s args RX10 D ay NC ad (aN NC ad)) (hm : meth.sig.returnType = none ∧ meth.locks = false) (ok_a0 : okr kC NC 10 a0 = true) (hf : F_X10_noteOrigin_33 a0 l1 l2 l3 σ = some o) (hb0 : ∀ (v : Int32 × hSt), o = .inl v → ∀ (H : Heap) (locs : List Loc) (ls : Array Slot), Wd D ay kC NC ad (aN NC ad) s v.2 H locs → lv_has ls 4 [(0, .ref (ad a0)), (1, .int l1), (2, .int l2), (3, .int v.1)] → W p l e (rmK 0 0) s m args below meth c H locs 0 0 (MQ below (cV D ay kC NC ad σ0) args s 0 0 (aN NC ad)) (F0 m 2 ls [])) (hr : ∀ x, o = .inr (x) → x = σ0) (w : Wd D ay kC NC ad (aN NC ad) s σ H locs) (hl : lv_has ls 4 [(0, .ref (ad a0)), (1, .int l1), (2, .int l2), (3, .int l3)]) : W p l e (rmK 0 0) s m args below meth c H locs 0 0 (MQ below (cV D ay kC NC ad σ0) args s 0 0 (aN NC ad)) (F0 m 33 ls []) := by
  have k_a0 := okr_in ok_a0
  unfold F_X10_noteOrigin_33 at hf
  obtain ⟨v1, e_v1, hf⟩ := cL_some hf
  refine lv_iinc (v := v1) (lv' := [(3, .int v1), (0, .ref (ad a0)), (1, .int l1), (2, .int l2)]) G.hx G.hb (dcs_get dec_X10_noteOrigin_0 22 rfl) hl (k := 3) rfl (by rw [e_v1]; rfl) (by decide) rfl (fun ls hl => ?_)
  refine lv_goto (tgt := 2) G.hx G.hb (dcs_get dec_X10_noteOrigin_0 23 rfl) (by decide) ?_
  exact hb0 _ (Option.some.inj hf).symm _ _ _ w (lv_sub hl [1, 2, 3, 0] rfl)
set_option maxRecDepth 100000 in
set_option maxHeartbeats 4000000 in
theorem B_X10_noteOrigin_2b {H : Heap} {locs : List Loc} {ls : Array Slot} {σ0 : hSt} {o : (Int32 × hSt) ⊕ (hSt)} (a0 : Nat) (l1 : Int32) (l2 : Int32) (l3 : Int32) (σ : hSt) (G : Gx p m c cX10_noteOrigin 4 s args RX10 D ay NC ad (aN NC ad)) (hm : meth.sig.returnType = none ∧ meth.locks = false) (ok_a0 : okr kC NC 10 a0 = true) (hf : F_X10_noteOrigin_2b a0 l1 l2 l3 σ = some o) (hb0 : ∀ (v : Int32 × hSt), o = .inl v → ∀ (H : Heap) (locs : List Loc) (ls : Array Slot), Wd D ay kC NC ad (aN NC ad) s v.2 H locs → lv_has ls 4 [(0, .ref (ad a0)), (1, .int l1), (2, .int l2), (3, .int v.1)] → W p l e (rmK 0 0) s m args below meth c H locs 0 0 (MQ below (cV D ay kC NC ad σ0) args s 0 0 (aN NC ad)) (F0 m 2 ls [])) (hr : ∀ x, o = .inr (x) → x = σ0) (w : Wd D ay kC NC ad (aN NC ad) s σ H locs) (hl : lv_has ls 4 [(0, .ref (ad a0)), (1, .int l1), (2, .int l2), (3, .int l3)]) : W p l e (rmK 0 0) s m args below meth c H locs 0 0 (MQ below (cV D ay kC NC ad σ0) args s 0 0 (aN NC ad)) (F0 m 2 ls []) := by
  have k_a0 := okr_in ok_a0
  unfold F_X10_noteOrigin_2b at hf
  refine lv_iload_n G.hx G.hb (dcs_get dec_X10_noteOrigin_0 2 rfl) rfl (lv_at hl 3 rfl) ?_
  refine lv_bipush (v := (24 : Int32)) G.hx G.hb (dcs_get dec_X10_noteOrigin_0 3 rfl) (by decide) ?_
  refine lv_icmp_ge (tgt := 39) G.hx G.hb (dcs_get dec_X10_noteOrigin_0 4 rfl) (by decide) (fun hc => ?_) (fun hc => ?_)
  · rw [if_pos hc] at hf
    have e9 := hr _ (Option.some.inj hf).symm
    exact r_vret G w hm e9 (dcs_get dec_X10_noteOrigin_0 24 rfl)
  · rw [if_neg hc] at hf
    refine lv_iload_n G.hx G.hb (dcs_get dec_X10_noteOrigin_0 5 rfl) rfl (lv_at hl 1 rfl) ?_
    refine lv_iload_n G.hx G.hb (dcs_get dec_X10_noteOrigin_0 6 rfl) rfl (lv_at hl 3 rfl) ?_
    refine lv_ishr G.hx G.hb (dcs_get dec_X10_noteOrigin_0 7 rfl) ?_
    refine lv_iconst (v := (1 : Int32)) G.hx G.hb (dcs_get dec_X10_noteOrigin_0 8 rfl) (by decide) ?_
    refine lv_iand G.hx G.hb (dcs_get dec_X10_noteOrigin_0 9 rfl) ?_
    refine lv_if_eq (tgt := 33) G.hx G.hb (dcs_get dec_X10_noteOrigin_0 10 rfl) (by decide) (fun hc => ?_) (fun hc => ?_)
    · rw [if_pos hc] at hf
      exact B_X10_noteOrigin_33 a0 l1 l2 l3 σ G hm ok_a0 hf hb0 hr w (lv_sub hl [0, 1, 2, 3] rfl)
    · rw [if_neg hc] at hf
      refine lv_aload_n G.hx G.hb (dcs_get dec_X10_noteOrigin_0 11 rfl) rfl (lv_at hl 0 rfl) ?_
      obtain ⟨z2, e_z2, ok_z2, hf⟩ := cR_some hf
      have k_z2 := okr_in ok_z2
      refine r_getr (k := 9) cls10 fi_10_9.1 fi_10_9.2 q_250 G w k_a0.1 k_a0.2 e_z2 (dcs_get dec_X10_noteOrigin_0 12 rfl) ?_
      refine lv_iload_n G.hx G.hb (dcs_get dec_X10_noteOrigin_0 13 rfl) rfl (lv_at hl 3 rfl) ?_
      refine lv_aload_n G.hx G.hb (dcs_get dec_X10_noteOrigin_0 14 rfl) rfl (lv_at hl 0 rfl) ?_
      refine r_geti (k := 0) cls10 fi_10_0.1 fi_10_0.2 q_233 G w k_a0.1 k_a0.2 (dcs_get dec_X10_noteOrigin_0 15 rfl) ?_
      obtain ⟨h3, hf⟩ := cG_some hf
      obtain ⟨σ4, e_σ4, hf⟩ := cL_some hf
      refine r_iast G w k_z2.1 k_z2.2 h3 (dcs_get dec_X10_noteOrigin_0 16 rfl) (fun H locs w => ?_)
      have w := Wd.nm e_σ4 w
      refine lv_aload_n G.hx G.hb (dcs_get dec_X10_noteOrigin_0 17 rfl) rfl (lv_at hl 0 rfl) ?_
      obtain ⟨z5, e_z5, ok_z5, hf⟩ := cR_some hf
      have k_z5 := okr_in ok_z5
      refine r_getr (k := 10) cls10 fi_10_10.1 fi_10_10.2 q_253 G w k_a0.1 k_a0.2 e_z5 (dcs_get dec_X10_noteOrigin_0 18 rfl) ?_
      refine lv_iload_n G.hx G.hb (dcs_get dec_X10_noteOrigin_0 19 rfl) rfl (lv_at hl 3 rfl) ?_
      refine lv_iload_n G.hx G.hb (dcs_get dec_X10_noteOrigin_0 20 rfl) rfl (lv_at hl 2 rfl) ?_
      obtain ⟨h6, hf⟩ := cG_some hf
      obtain ⟨σ7, e_σ7, hf⟩ := cL_some hf
      refine r_iast G w k_z5.1 k_z5.2 h6 (dcs_get dec_X10_noteOrigin_0 21 rfl) (fun H locs w => ?_)
      have w := Wd.nm e_σ7 w
      exact B_X10_noteOrigin_33 a0 l1 l2 l3 σ7 G hm ok_a0 hf hb0 hr w (lv_sub hl [0, 1, 2, 3] rfl)
set_option maxRecDepth 100000 in
set_option maxHeartbeats 4000000 in
theorem H_X10_noteOrigin_2 {σ0 : hSt} (a0 : Nat) (l1 : Int32) (l2 : Int32) (G : Gx p m c cX10_noteOrigin 4 s args RX10 D ay NC ad (aN NC ad)) (hm : meth.sig.returnType = none ∧ meth.locks = false) (ok_a0 : okr kC NC 10 a0 = true)  : ∀ (k : Nat) (v : Int32 × hSt), lp (S_X10_noteOrigin_2 a0 l1 l2) k v = some σ0 → ∀ (H : Heap) (locs : List Loc) (ls : Array Slot), Wd D ay kC NC ad (aN NC ad) s v.2 H locs → lv_has ls 4 [(0, .ref (ad a0)), (1, .int l1), (2, .int l2), (3, .int v.1)] → W p l e (rmK 0 0) s m args below meth c H locs 0 0 (MQ below (cV D ay kC NC ad σ0) args s 0 0 (aN NC ad)) (F0 m 2 ls []) := by
  intro k
  induction k with
  | zero => intro v hf; cases hf
  | succ k ih =>
    intro v hf H locs ls w hl
    obtain ⟨o1, h1, h2, h3⟩ := lp_some hf
    exact B_X10_noteOrigin_2b a0 l1 l2 v.1 v.2 G hm ok_a0 h1  (fun v' e => ih v' (h2 v' e)) (fun x e => h3 x e) w hl
set_option maxRecDepth 100000 in
set_option maxHeartbeats 4000000 in
theorem B_X10_noteOrigin_2 {H : Heap} {locs : List Loc} {ls : Array Slot} {σ0 : hSt} (a0 : Nat) (l1 : Int32) (l2 : Int32) (l3 : Int32) (σ : hSt) (G : Gx p m c cX10_noteOrigin 4 s args RX10 D ay NC ad (aN NC ad)) (hm : meth.sig.returnType = none ∧ meth.locks = false) (ok_a0 : okr kC NC 10 a0 = true) (hf : F_X10_noteOrigin_2 a0 l1 l2 l3 σ = some σ0)  (w : Wd D ay kC NC ad (aN NC ad) s σ H locs) (hl : lv_has ls 4 [(0, .ref (ad a0)), (1, .int l1), (2, .int l2), (3, .int l3)]) : W p l e (rmK 0 0) s m args below meth c H locs 0 0 (MQ below (cV D ay kC NC ad σ0) args s 0 0 (aN NC ad)) (F0 m 2 ls []) := by
  unfold F_X10_noteOrigin_2 at hf
  exact H_X10_noteOrigin_2 a0 l1 l2  G hm ok_a0  fuel (l3, σ) hf _ _ _ w hl
set_option maxRecDepth 100000 in
set_option maxHeartbeats 4000000 in
theorem B_X10_noteOrigin_0 {H : Heap} {locs : List Loc} {ls : Array Slot} {σ0 : hSt} (a0 : Nat) (l1 : Int32) (l2 : Int32) (σ : hSt) (G : Gx p m c cX10_noteOrigin 4 s args RX10 D ay NC ad (aN NC ad)) (hm : meth.sig.returnType = none ∧ meth.locks = false) (ok_a0 : okr kC NC 10 a0 = true) (hf : F_X10_noteOrigin a0 l1 l2 σ = some σ0)  (w : Wd D ay kC NC ad (aN NC ad) s σ H locs) (hl : lv_has ls 4 [(0, .ref (ad a0)), (1, .int l1), (2, .int l2)]) : W p l e (rmK 0 0) s m args below meth c H locs 0 0 (MQ below (cV D ay kC NC ad σ0) args s 0 0 (aN NC ad)) (F0 m 0 ls []) := by
  have k_a0 := okr_in ok_a0
  unfold F_X10_noteOrigin at hf
  refine lv_iconst (v := (0 : Int32)) G.hx G.hb (dcs_get dec_X10_noteOrigin_0 0 rfl) (by decide) ?_
  refine lv_istore_n (lv' := [(3, .int (0 : Int32)), (0, .ref (ad a0)), (1, .int l1), (2, .int l2)]) G.hx G.hb (dcs_get dec_X10_noteOrigin_0 1 rfl) rfl hl (by decide) rfl (fun ls hl => ?_)
  exact B_X10_noteOrigin_2 a0 l1 l2 (0 : Int32) σ G hm ok_a0 hf  w (lv_sub hl [1, 2, 3, 0] rfl)
end
set_option maxRecDepth 100000 in
set_option maxHeartbeats 4000000 in
theorem C_X10_noteOrigin {l : Launch} {D : va_G} {ay : Nat → ClassId} {ad : Nat → Nat} (hi : hInj NC ad) (a0 : Nat) (l1 : Int32) (l2 : Int32) (σ : hSt) {σ0 : hSt} (hf : F_X10_noteOrigin a0 l1 l2 σ = some σ0) (ok_a0 : okr kC NC 10 a0 = true) : hM l D ay kC NC ad yX10_noteOrigin cX10_noteOrigin 4 (none) (rmK 0 0) [.ref (ad a0), .int l1, .int l2] σ (cV D ay kC NC ad σ0) := by
  refine hM_in (by decide) hi (Nat.le_of_ble_eq_true rfl) ?_
  intro p e s m below meth c G hm w ls hl
  exact B_X10_noteOrigin_0 a0 l1 l2 σ G hm ok_a0 hf w (lv_sub hl [0, 1, 2] rfl)

/-! HillDrums.World.sound(IIZI)V -/
def DL_X10_sound_0 : List (Nat × Instr × Nat) := [(0, .iload 4, 2), (2, .iconst 1, 1), (3, .iload_n 1, 1), (4, .ishl, 1), (5, .iconst (-1), 1), (6, .ixor, 1), (7, .iand, 1), (8, .bipush 6, 2), (10, .iload_n 2, 1), (11, .imul, 1), (12, .ishl, 1), (13, .istore 5, 2), (15, .iload 5, 2), (17, .aload_n 0, 1), (18, .getfield 15, 3), (21, .iconst (-1), 1), (22, .ixor, 1), (23, .iand, 1), (24, .istore 6, 2), (26, .aload_n 0, 1), (27, .dup, 1), (28, .getfield 15, 3), (31, .iload 5, 2), (33, .ior, 1), (34, .putfield 15, 3), (37, .aload_n 0, 1), (38, .dup, 1), (39, .getfield 36, 3), (42, .iconst 1, 1), (43, .iadd, 1), (44, .putfield 36, 3), (47, .iload_n 3, 1), (48, .ifCond .eq 28, 3), (51, .aload_n 0, 1), (52, .dup, 1), (53, .getfield 30, 3), (56, .iload 5, 2), (58, .ior, 1), (59, .putfield 30, 3), (62, .aload_n 0, 1)]
set_option maxRecDepth 100000 in
theorem dec_X10_sound_0 : dcs cX10_sound DL_X10_sound_0 = true := by decide +kernel
def DL_X10_sound_1 : List (Nat × Instr × Nat) := [(63, .dup, 1), (64, .getfield 18, 3), (67, .iload 6, 2), (69, .ior, 1), (70, .putfield 18, 3), (73, .goto 14, 3), (76, .aload_n 0, 1), (77, .dup, 1), (78, .getfield 27, 3), (81, .iload 5, 2), (83, .ior, 1), (84, .putfield 27, 3), (87, .iload 6, 2), (89, .ifCond .eq 10, 3), (92, .aload_n 0, 1), (93, .iload 6, 2), (95, .iload_n 1, 1), (96, .invokevirtual 80, 3), (99, .return_, 1)]
set_option maxRecDepth 100000 in
theorem dec_X10_sound_1 : dcs cX10_sound DL_X10_sound_1 = true := by decide +kernel
theorem lb_X10_sound : lkB yX10_sound cX10_sound 7 (none) 4 := ⟨q_778, q_8, ⟨by decide, by decide⟩, by decide +kernel⟩
theorem lv_X10_sound : lkV yX10_sound := ⟨q_777, qs_46⟩
def F_X10_sound_99  (σ : hSt) : Option (hSt) :=
some (σ)
def F_X10_sound_87 (a0 : Nat) (l1 : Int32) (l6 : Int32) (σ : hSt) : Option (hSt) :=
if l6 = 0 then (
F_X10_sound_99  σ) else (
(F_X10_noteOrigin a0 l6 l1 σ).bind fun σ2 =>
F_X10_sound_99  σ2)
def F_X10_sound (a0 : Nat) (l1 : Int32) (l2 : Int32) (l3 : Int32) (l4 : Int32) (σ : hSt) : Option (hSt) :=
cL ((l4 &&& (((1 : Int32) <<< (l1 &&& 31)) ^^^ (-1 : Int32))) <<< (((6 : Int32) * l2) &&& 31)) fun v3 =>
cL (v3 &&& ((σ.1 a0 1) ^^^ (-1 : Int32))) fun v4 =>
cL (uI σ a0 1 ((σ.1 a0 1) ||| v3)) fun σ5 =>
cL (uI σ5 a0 8 ((σ5.1 a0 8) + (1 : Int32))) fun σ6 =>
if l3 = 0 then (
cL (uI σ6 a0 5 ((σ6.1 a0 5) ||| v3)) fun σ7 =>
F_X10_sound_87 a0 l1 v4 σ7) else (
cL (uI σ6 a0 6 ((σ6.1 a0 6) ||| v3)) fun σ8 =>
cL (uI σ8 a0 2 ((σ8.1 a0 2) ||| v4)) fun σ9 =>
F_X10_sound_87 a0 l1 v4 σ9)
section
variable {p : Program} {l : Launch} {e : Env} {s : State} {m : MethodId} {args : Array Value} {below : List Frame} {meth : Method} {c : Code} {D : va_G} {ay : Nat → ClassId} {ad : Nat → Nat}
set_option maxRecDepth 100000 in
set_option maxHeartbeats 4000000 in
theorem B_X10_sound_99 {H : Heap} {locs : List Loc} {ls : Array Slot} {σ0 : hSt}  (σ : hSt) (G : Gx p m c cX10_sound 7 s args RX10 D ay NC ad (aN NC ad)) (hm : meth.sig.returnType = none ∧ meth.locks = false)  (hf : F_X10_sound_99  σ = some σ0)  (w : Wd D ay kC NC ad (aN NC ad) s σ H locs) (hl : lv_has ls 7 []) : W p l e (rmK 1 23) s m args below meth c H locs 0 0 (MQ below (cV D ay kC NC ad σ0) args s 0 0 (aN NC ad)) (F0 m 99 ls []) := by
  unfold F_X10_sound_99 at hf
  have e9 := Option.some.inj hf
  exact r_vret G w hm e9 (dcs_get dec_X10_sound_1 18 rfl)
set_option maxRecDepth 100000 in
set_option maxHeartbeats 4000000 in
theorem B_X10_sound_87 {H : Heap} {locs : List Loc} {ls : Array Slot} {σ0 : hSt} (a0 : Nat) (l1 : Int32) (l6 : Int32) (σ : hSt) (G : Gx p m c cX10_sound 7 s args RX10 D ay NC ad (aN NC ad)) (hm : meth.sig.returnType = none ∧ meth.locks = false) (ok_a0 : okr kC NC 10 a0 = true) (hf : F_X10_sound_87 a0 l1 l6 σ = some σ0)  (w : Wd D ay kC NC ad (aN NC ad) s σ H locs) (hl : lv_has ls 7 [(0, .ref (ad a0)), (1, .int l1), (6, .int l6)]) : W p l e (rmK 1 23) s m args below meth c H locs 0 0 (MQ below (cV D ay kC NC ad σ0) args s 0 0 (aN NC ad)) (F0 m 87 ls []) := by
  have k_a0 := okr_in ok_a0
  unfold F_X10_sound_87 at hf
  refine lv_iload G.hx G.hb (dcs_get dec_X10_sound_1 12 rfl) (lv_at hl 2 rfl) ?_
  refine lv_if_eq (tgt := 99) G.hx G.hb (dcs_get dec_X10_sound_1 13 rfl) (by decide) (fun hc => ?_) (fun hc => ?_)
  · rw [if_pos hc] at hf
    exact B_X10_sound_99  σ G hm  hf  w (lv_sub hl [] rfl)
  · rw [if_neg hc] at hf
    refine lv_aload_n G.hx G.hb (dcs_get dec_X10_sound_1 14 rfl) rfl (lv_at hl 0 rfl) ?_
    refine lv_iload G.hx G.hb (dcs_get dec_X10_sound_1 15 rfl) (lv_at hl 2 rfl) ?_
    refine lv_iload_n G.hx G.hb (dcs_get dec_X10_sound_1 16 rfl) rfl (lv_at hl 1 rfl) ?_
    obtain ⟨σ2, h1, hf⟩ := cB_some hf
    refine a_v (k_V (As := [.int l6, .int l1]) (rest := []) cls10 lb_X10_noteOrigin lv_X10_noteOrigin q_779 (C_X10_noteOrigin G.2.2.1 a0 l6 l1 σ h1 ok_a0) ⟨(Nat.le_of_ble_eq_true rfl), (Nat.le_of_ble_eq_true rfl)⟩ G w k_a0.1 k_a0.2 rfl rfl hl.1 (Nat.le_of_ble_eq_true rfl) (dcs_get dec_X10_sound_1 17 rfl) ⟨Nat.le_refl _, Nat.le_refl _⟩) G w (fun H locs w => ?_)
    exact B_X10_sound_99  σ2 G hm  hf  w (lv_sub hl [] rfl)
set_option maxRecDepth 100000 in
set_option maxHeartbeats 4000000 in
theorem B_X10_sound_0 {H : Heap} {locs : List Loc} {ls : Array Slot} {σ0 : hSt} (a0 : Nat) (l1 : Int32) (l2 : Int32) (l3 : Int32) (l4 : Int32) (σ : hSt) (G : Gx p m c cX10_sound 7 s args RX10 D ay NC ad (aN NC ad)) (hm : meth.sig.returnType = none ∧ meth.locks = false) (ok_a0 : okr kC NC 10 a0 = true) (hf : F_X10_sound a0 l1 l2 l3 l4 σ = some σ0)  (w : Wd D ay kC NC ad (aN NC ad) s σ H locs) (hl : lv_has ls 7 [(0, .ref (ad a0)), (1, .int l1), (2, .int l2), (3, .int l3), (4, .int l4)]) : W p l e (rmK 1 23) s m args below meth c H locs 0 0 (MQ below (cV D ay kC NC ad σ0) args s 0 0 (aN NC ad)) (F0 m 0 ls []) := by
  have k_a0 := okr_in ok_a0
  unfold F_X10_sound at hf
  refine lv_iload G.hx G.hb (dcs_get dec_X10_sound_0 0 rfl) (lv_at hl 4 rfl) ?_
  refine lv_iconst (v := (1 : Int32)) G.hx G.hb (dcs_get dec_X10_sound_0 1 rfl) (by decide) ?_
  refine lv_iload_n G.hx G.hb (dcs_get dec_X10_sound_0 2 rfl) rfl (lv_at hl 1 rfl) ?_
  refine lv_ishl G.hx G.hb (dcs_get dec_X10_sound_0 3 rfl) ?_
  refine lv_iconst (v := (-1 : Int32)) G.hx G.hb (dcs_get dec_X10_sound_0 4 rfl) (by decide) ?_
  refine lv_ixor G.hx G.hb (dcs_get dec_X10_sound_0 5 rfl) ?_
  refine lv_iand G.hx G.hb (dcs_get dec_X10_sound_0 6 rfl) ?_
  refine lv_bipush (v := (6 : Int32)) G.hx G.hb (dcs_get dec_X10_sound_0 7 rfl) (by decide) ?_
  refine lv_iload_n G.hx G.hb (dcs_get dec_X10_sound_0 8 rfl) rfl (lv_at hl 2 rfl) ?_
  refine lv_imul G.hx G.hb (dcs_get dec_X10_sound_0 9 rfl) ?_
  refine lv_ishl G.hx G.hb (dcs_get dec_X10_sound_0 10 rfl) ?_
  obtain ⟨v3, e_v3, hf⟩ := cL_some hf
  refine r_topi e_v3 ?_
  refine lv_istore (lv' := [(5, .int v3), (0, .ref (ad a0)), (1, .int l1), (2, .int l2), (3, .int l3), (4, .int l4)]) G.hx G.hb (dcs_get dec_X10_sound_0 11 rfl) hl (by decide) rfl (fun ls hl => ?_)
  refine lv_iload G.hx G.hb (dcs_get dec_X10_sound_0 12 rfl) (lv_at hl 0 rfl) ?_
  refine lv_aload_n G.hx G.hb (dcs_get dec_X10_sound_0 13 rfl) rfl (lv_at hl 1 rfl) ?_
  refine r_geti (k := 1) cls10 fi_10_1.1 fi_10_1.2 q_237 G w k_a0.1 k_a0.2 (dcs_get dec_X10_sound_0 14 rfl) ?_
  refine lv_iconst (v := (-1 : Int32)) G.hx G.hb (dcs_get dec_X10_sound_0 15 rfl) (by decide) ?_
  refine lv_ixor G.hx G.hb (dcs_get dec_X10_sound_0 16 rfl) ?_
  refine lv_iand G.hx G.hb (dcs_get dec_X10_sound_0 17 rfl) ?_
  obtain ⟨v4, e_v4, hf⟩ := cL_some hf
  refine r_topi e_v4 ?_
  refine lv_istore (lv' := [(6, .int v4), (5, .int v3), (0, .ref (ad a0)), (1, .int l1), (2, .int l2), (3, .int l3), (4, .int l4)]) G.hx G.hb (dcs_get dec_X10_sound_0 18 rfl) hl (by decide) rfl (fun ls hl => ?_)
  refine lv_aload_n G.hx G.hb (dcs_get dec_X10_sound_0 19 rfl) rfl (lv_at hl 2 rfl) ?_
  refine lv_dup G.hx G.hb (dcs_get dec_X10_sound_0 20 rfl) rfl ?_
  refine r_geti (k := 1) cls10 fi_10_1.1 fi_10_1.2 q_237 G w k_a0.1 k_a0.2 (dcs_get dec_X10_sound_0 21 rfl) ?_
  refine lv_iload G.hx G.hb (dcs_get dec_X10_sound_0 22 rfl) (lv_at hl 1 rfl) ?_
  refine lv_ior G.hx G.hb (dcs_get dec_X10_sound_0 23 rfl) ?_
  obtain ⟨σ5, e_σ5, hf⟩ := cL_some hf
  refine r_puti (k := 1) cls10 ct10 fi_10_1.1 fi_10_1.2 fp_10_1.1 fp_10_1.2 q_237 rfl rfl G w k_a0.1 k_a0.2 (dcs_get dec_X10_sound_0 24 rfl) (fun H locs w => ?_)
  have w := Wd.nm e_σ5 w
  refine lv_aload_n G.hx G.hb (dcs_get dec_X10_sound_0 25 rfl) rfl (lv_at hl 2 rfl) ?_
  refine lv_dup G.hx G.hb (dcs_get dec_X10_sound_0 26 rfl) rfl ?_
  refine r_geti (k := 8) cls10 fi_10_8.1 fi_10_8.2 q_248 G w k_a0.1 k_a0.2 (dcs_get dec_X10_sound_0 27 rfl) ?_
  refine lv_iconst (v := (1 : Int32)) G.hx G.hb (dcs_get dec_X10_sound_0 28 rfl) (by decide) ?_
  refine lv_iadd G.hx G.hb (dcs_get dec_X10_sound_0 29 rfl) ?_
  obtain ⟨σ6, e_σ6, hf⟩ := cL_some hf
  refine r_puti (k := 8) cls10 ct10 fi_10_8.1 fi_10_8.2 fp_10_8.1 fp_10_8.2 q_248 rfl rfl G w k_a0.1 k_a0.2 (dcs_get dec_X10_sound_0 30 rfl) (fun H locs w => ?_)
  have w := Wd.nm e_σ6 w
  refine lv_iload_n G.hx G.hb (dcs_get dec_X10_sound_0 31 rfl) rfl (lv_at hl 5 rfl) ?_
  refine lv_if_eq (tgt := 76) G.hx G.hb (dcs_get dec_X10_sound_0 32 rfl) (by decide) (fun hc => ?_) (fun hc => ?_)
  · rw [if_pos hc] at hf
    refine lv_aload_n G.hx G.hb (dcs_get dec_X10_sound_1 6 rfl) rfl (lv_at hl 2 rfl) ?_
    refine lv_dup G.hx G.hb (dcs_get dec_X10_sound_1 7 rfl) rfl ?_
    refine r_geti (k := 5) cls10 fi_10_5.1 fi_10_5.2 q_244 G w k_a0.1 k_a0.2 (dcs_get dec_X10_sound_1 8 rfl) ?_
    refine lv_iload G.hx G.hb (dcs_get dec_X10_sound_1 9 rfl) (lv_at hl 1 rfl) ?_
    refine lv_ior G.hx G.hb (dcs_get dec_X10_sound_1 10 rfl) ?_
    obtain ⟨σ7, e_σ7, hf⟩ := cL_some hf
    refine r_puti (k := 5) cls10 ct10 fi_10_5.1 fi_10_5.2 fp_10_5.1 fp_10_5.2 q_244 rfl rfl G w k_a0.1 k_a0.2 (dcs_get dec_X10_sound_1 11 rfl) (fun H locs w => ?_)
    have w := Wd.nm e_σ7 w
    exact B_X10_sound_87 a0 l1 v4 σ7 G hm ok_a0 hf  w (lv_sub hl [2, 3, 0] rfl)
  · rw [if_neg hc] at hf
    refine lv_aload_n G.hx G.hb (dcs_get dec_X10_sound_0 33 rfl) rfl (lv_at hl 2 rfl) ?_
    refine lv_dup G.hx G.hb (dcs_get dec_X10_sound_0 34 rfl) rfl ?_
    refine r_geti (k := 6) cls10 fi_10_6.1 fi_10_6.2 q_245 G w k_a0.1 k_a0.2 (dcs_get dec_X10_sound_0 35 rfl) ?_
    refine lv_iload G.hx G.hb (dcs_get dec_X10_sound_0 36 rfl) (lv_at hl 1 rfl) ?_
    refine lv_ior G.hx G.hb (dcs_get dec_X10_sound_0 37 rfl) ?_
    obtain ⟨σ8, e_σ8, hf⟩ := cL_some hf
    refine r_puti (k := 6) cls10 ct10 fi_10_6.1 fi_10_6.2 fp_10_6.1 fp_10_6.2 q_245 rfl rfl G w k_a0.1 k_a0.2 (dcs_get dec_X10_sound_0 38 rfl) (fun H locs w => ?_)
    have w := Wd.nm e_σ8 w
    refine lv_aload_n G.hx G.hb (dcs_get dec_X10_sound_0 39 rfl) rfl (lv_at hl 2 rfl) ?_
    refine lv_dup G.hx G.hb (dcs_get dec_X10_sound_1 0 rfl) rfl ?_
    refine r_geti (k := 2) cls10 fi_10_2.1 fi_10_2.2 q_240 G w k_a0.1 k_a0.2 (dcs_get dec_X10_sound_1 1 rfl) ?_
    refine lv_iload G.hx G.hb (dcs_get dec_X10_sound_1 2 rfl) (lv_at hl 0 rfl) ?_
    refine lv_ior G.hx G.hb (dcs_get dec_X10_sound_1 3 rfl) ?_
    obtain ⟨σ9, e_σ9, hf⟩ := cL_some hf
    refine r_puti (k := 2) cls10 ct10 fi_10_2.1 fi_10_2.2 fp_10_2.1 fp_10_2.2 q_240 rfl rfl G w k_a0.1 k_a0.2 (dcs_get dec_X10_sound_1 4 rfl) (fun H locs w => ?_)
    have w := Wd.nm e_σ9 w
    refine lv_goto (tgt := 87) G.hx G.hb (dcs_get dec_X10_sound_1 5 rfl) (by decide) ?_
    exact B_X10_sound_87 a0 l1 v4 σ9 G hm ok_a0 hf  w (lv_sub hl [2, 3, 0] rfl)
end
set_option maxRecDepth 100000 in
set_option maxHeartbeats 4000000 in
theorem C_X10_sound {l : Launch} {D : va_G} {ay : Nat → ClassId} {ad : Nat → Nat} (hi : hInj NC ad) (a0 : Nat) (l1 : Int32) (l2 : Int32) (l3 : Int32) (l4 : Int32) (σ : hSt) {σ0 : hSt} (hf : F_X10_sound a0 l1 l2 l3 l4 σ = some σ0) (ok_a0 : okr kC NC 10 a0 = true) : hM l D ay kC NC ad yX10_sound cX10_sound 7 (none) (rmK 1 23) [.ref (ad a0), .int l1, .int l2, .int l3, .int l4] σ (cV D ay kC NC ad σ0) := by
  refine hM_in (by decide) hi (Nat.le_of_ble_eq_true rfl) ?_
  intro p e s m below meth c G hm w ls hl
  exact B_X10_sound_0 a0 l1 l2 l3 l4 σ G hm ok_a0 hf w (lv_sub hl [0, 1, 2, 3, 4] rfl)

/-! HillDrums.World.drumByDay(IIZI)V -/
def DL_X10_drumByDay_0 : List (Nat × Instr × Nat) := [(0, .aload_n 0, 1), (1, .getfield 33, 3), (4, .ifCond .lt 12, 3), (7, .aload_n 0, 1), (8, .getfield 33, 3), (11, .bipush 60, 2), (13, .if_icmp .lt 4, 3), (16, .return_, 1), (17, .aload_n 0, 1), (18, .getfield 46, 3), (21, .aload_n 0, 1), (22, .getfield 33, 3), (25, .iload 4, 2), (27, .bipush 7, 2), (29, .ishl, 1), (30, .iload_n 3, 1), (31, .ifCond .eq 7, 3), (34, .iconst 1, 1), (35, .goto 4, 3), (38, .iconst 0, 1), (39, .bipush 6, 2), (41, .ishl, 1), (42, .ior, 1), (43, .iload_n 2, 1), (44, .iconst 3, 1), (45, .ishl, 1), (46, .ior, 1), (47, .iload_n 1, 1), (48, .ior, 1), (49, .iastore, 1), (50, .aload_n 0, 1), (51, .dup, 1), (52, .getfield 33, 3), (55, .iconst 1, 1), (56, .iadd, 1), (57, .putfield 33, 3), (60, .iload 4, 2), (62, .iconst 1, 1), (63, .iload_n 1, 1), (64, .ishl, 1)]
set_option maxRecDepth 100000 in
theorem dec_X10_drumByDay_0 : dcs cX10_drumByDay DL_X10_drumByDay_0 = true := by decide +kernel
def DL_X10_drumByDay_1 : List (Nat × Instr × Nat) := [(65, .iconst (-1), 1), (66, .ixor, 1), (67, .iand, 1), (68, .bipush 6, 2), (70, .iload_n 2, 1), (71, .imul, 1), (72, .ishl, 1), (73, .istore 5, 2), (75, .iload_n 3, 1), (76, .ifCond .eq 17, 3), (79, .aload_n 0, 1), (80, .dup, 1), (81, .getfield 24, 3), (84, .iload 5, 2), (86, .ior, 1), (87, .putfield 24, 3), (90, .goto 14, 3), (93, .aload_n 0, 1), (94, .dup, 1), (95, .getfield 21, 3), (98, .iload 5, 2), (100, .ior, 1), (101, .putfield 21, 3), (104, .aload_n 0, 1), (105, .iload_n 1, 1), (106, .iload_n 2, 1), (107, .iload_n 3, 1), (108, .iload 4, 2), (110, .invokevirtual 76, 3), (113, .return_, 1)]
set_option maxRecDepth 100000 in
theorem dec_X10_drumByDay_1 : dcs cX10_drumByDay DL_X10_drumByDay_1 = true := by decide +kernel
theorem lb_X10_drumByDay : lkB yX10_drumByDay cX10_drumByDay 6 (none) 4 := ⟨q_774, q_8, ⟨by decide, by decide⟩, by decide +kernel⟩
theorem lv_X10_drumByDay : lkV yX10_drumByDay := ⟨q_773, qs_45⟩
def F_X10_drumByDay_16  (σ : hSt) : Option (hSt) :=
some (σ)
def F_X10_drumByDay_104 (a0 : Nat) (l1 : Int32) (l2 : Int32) (l3 : Int32) (l4 : Int32) (σ : hSt) : Option (hSt) :=
(F_X10_sound a0 l1 l2 l3 l4 σ).bind fun σ2 =>
some (σ2)
def F_X10_drumByDay_39 (a0 : Nat) (l1 : Int32) (l2 : Int32) (l3 : Int32) (l4 : Int32) (s0 : Nat) (s1 : Int32) (s2 : Int32) (s3 : Int32) (σ : hSt) : Option (hSt) :=
cG (inb s1 (kC s0).2) <|
cL (uI σ s0 s1.toNatClampNeg (((s2 ||| (s3 <<< ((6 : Int32) &&& 31))) ||| (l2 <<< ((3 : Int32) &&& 31))) ||| l1)) fun σ4 =>
cL (uI σ4 a0 7 ((σ4.1 a0 7) + (1 : Int32))) fun σ5 =>
cL ((l4 &&& (((1 : Int32) <<< (l1 &&& 31)) ^^^ (-1 : Int32))) <<< (((6 : Int32) * l2) &&& 31)) fun v6 =>
if l3 = 0 then (
cL (uI σ5 a0 3 ((σ5.1 a0 3) ||| v6)) fun σ7 =>
F_X10_drumByDay_104 a0 l1 l2 l3 l4 σ7) else (
cL (uI σ5 a0 4 ((σ5.1 a0 4) ||| v6)) fun σ8 =>
F_X10_drumByDay_104 a0 l1 l2 l3 l4 σ8)
def F_X10_drumByDay (a0 : Nat) (l1 : Int32) (l2 : Int32) (l3 : Int32) (l4 : Int32) (σ : hSt) : Option (hSt) :=
if (σ.1 a0 7) < 0 then (
F_X10_drumByDay_16  σ) else (
if (σ.1 a0 7) < (60 : Int32) then (
cR (σ.2.2 a0 11) (okr kC NC 101) fun z9 =>
if l3 = 0 then (
F_X10_drumByDay_39 a0 l1 l2 l3 l4 z9 (σ.1 a0 7) (l4 <<< ((7 : Int32) &&& 31)) (0 : Int32) σ) else (
F_X10_drumByDay_39 a0 l1 l2 l3 l4 z9 (σ.1 a0 7) (l4 <<< ((7 : Int32) &&& 31)) (1 : Int32) σ)) else (
F_X10_drumByDay_16  σ))
section
variable {p : Program} {l : Launch} {e : Env} {s : State} {m : MethodId} {args : Array Value} {below : List Frame} {meth : Method} {c : Code} {D : va_G} {ay : Nat → ClassId} {ad : Nat → Nat}
set_option maxRecDepth 100000 in
set_option maxHeartbeats 4000000 in
theorem B_X10_drumByDay_16 {H : Heap} {locs : List Loc} {ls : Array Slot} {σ0 : hSt}  (σ : hSt) (G : Gx p m c cX10_drumByDay 6 s args RX10 D ay NC ad (aN NC ad)) (hm : meth.sig.returnType = none ∧ meth.locks = false)  (hf : F_X10_drumByDay_16  σ = some σ0)  (w : Wd D ay kC NC ad (aN NC ad) s σ H locs) (hl : lv_has ls 6 []) : W p l e (rmK 2 49) s m args below meth c H locs 0 0 (MQ below (cV D ay kC NC ad σ0) args s 0 0 (aN NC ad)) (F0 m 16 ls []) := by
  unfold F_X10_drumByDay_16 at hf
  have e9 := Option.some.inj hf
  exact r_vret G w hm e9 (dcs_get dec_X10_drumByDay_0 7 rfl)
set_option maxRecDepth 100000 in
set_option maxHeartbeats 4000000 in
theorem B_X10_drumByDay_104 {H : Heap} {locs : List Loc} {ls : Array Slot} {σ0 : hSt} (a0 : Nat) (l1 : Int32) (l2 : Int32) (l3 : Int32) (l4 : Int32) (σ : hSt) (G : Gx p m c cX10_drumByDay 6 s args RX10 D ay NC ad (aN NC ad)) (hm : meth.sig.returnType = none ∧ meth.locks = false) (ok_a0 : okr kC NC 10 a0 = true) (hf : F_X10_drumByDay_104 a0 l1 l2 l3 l4 σ = some σ0)  (w : Wd D ay kC NC ad (aN NC ad) s σ H locs) (hl : lv_has ls 6 [(0, .ref (ad a0)), (1, .int l1), (2, .int l2), (3, .int l3), (4, .int l4)]) : W p l e (rmK 2 49) s m args below meth c H locs 0 0 (MQ below (cV D ay kC NC ad σ0) args s 0 0 (aN NC ad)) (F0 m 104 ls []) := by
  have k_a0 := okr_in ok_a0
  unfold F_X10_drumByDay_104 at hf
  refine lv_aload_n G.hx G.hb (dcs_get dec_X10_drumByDay_1 23 rfl) rfl (lv_at hl 0 rfl) ?_
  refine lv_iload_n G.hx G.hb (dcs_get dec_X10_drumByDay_1 24 rfl) rfl (lv_at hl 1 rfl) ?_
  refine lv_iload_n G.hx G.hb (dcs_get dec_X10_drumByDay_1 25 rfl) rfl (lv_at hl 2 rfl) ?_
  refine lv_iload_n G.hx G.hb (dcs_get dec_X10_drumByDay_1 26 rfl) rfl (lv_at hl 3 rfl) ?_
  refine lv_iload G.hx G.hb (dcs_get dec_X10_drumByDay_1 27 rfl) (lv_at hl 4 rfl) ?_
  obtain ⟨σ2, h1, hf⟩ := cB_some hf
  refine a_v (k_V (As := [.int l1, .int l2, .int l3, .int l4]) (rest := []) cls10 lb_X10_sound lv_X10_sound q_775 (C_X10_sound G.2.2.1 a0 l1 l2 l3 l4 σ h1 ok_a0) ⟨(Nat.le_of_ble_eq_true rfl), (Nat.le_of_ble_eq_true rfl)⟩ G w k_a0.1 k_a0.2 rfl rfl hl.1 (Nat.le_of_ble_eq_true rfl) (dcs_get dec_X10_drumByDay_1 28 rfl) ⟨Nat.le_refl _, Nat.le_refl _⟩) G w (fun H locs w => ?_)
  have e9 := Option.some.inj hf
  exact r_vret G w hm e9 (dcs_get dec_X10_drumByDay_1 29 rfl)
set_option maxRecDepth 100000 in
set_option maxHeartbeats 4000000 in
theorem B_X10_drumByDay_39 {H : Heap} {locs : List Loc} {ls : Array Slot} {σ0 : hSt} (a0 : Nat) (l1 : Int32) (l2 : Int32) (l3 : Int32) (l4 : Int32) (s0 : Nat) (s1 : Int32) (s2 : Int32) (s3 : Int32) (σ : hSt) (G : Gx p m c cX10_drumByDay 6 s args RX10 D ay NC ad (aN NC ad)) (hm : meth.sig.returnType = none ∧ meth.locks = false) (ok_a0 : okr kC NC 10 a0 = true) (ok_s0 : okr kC NC 101 s0 = true) (hf : F_X10_drumByDay_39 a0 l1 l2 l3 l4 s0 s1 s2 s3 σ = some σ0)  (w : Wd D ay kC NC ad (aN NC ad) s σ H locs) (hl : lv_has ls 6 [(0, .ref (ad a0)), (1, .int l1), (2, .int l2), (3, .int l3), (4, .int l4)]) : W p l e (rmK 2 49) s m args below meth c H locs 0 0 (MQ below (cV D ay kC NC ad σ0) args s 0 0 (aN NC ad)) (F0 m 39 ls [.int s3, .int s2, .int s1, .ref (ad s0)]) := by
  have k_a0 := okr_in ok_a0
  have k_s0 := okr_in ok_s0
  unfold F_X10_drumByDay_39 at hf
  refine lv_bipush (v := (6 : Int32)) G.hx G.hb (dcs_get dec_X10_drumByDay_0 20 rfl) (by decide) ?_
  refine lv_ishl G.hx G.hb (dcs_get dec_X10_drumByDay_0 21 rfl) ?_
  refine lv_ior G.hx G.hb (dcs_get dec_X10_drumByDay_0 22 rfl) ?_
  refine lv_iload_n G.hx G.hb (dcs_get dec_X10_drumByDay_0 23 rfl) rfl (lv_at hl 2 rfl) ?_
  refine lv_iconst (v := (3 : Int32)) G.hx G.hb (dcs_get dec_X10_drumByDay_0 24 rfl) (by decide) ?_
  refine lv_ishl G.hx G.hb (dcs_get dec_X10_drumByDay_0 25 rfl) ?_
  refine lv_ior G.hx G.hb (dcs_get dec_X10_drumByDay_0 26 rfl) ?_
  refine lv_iload_n G.hx G.hb (dcs_get dec_X10_drumByDay_0 27 rfl) rfl (lv_at hl 1 rfl) ?_
  refine lv_ior G.hx G.hb (dcs_get dec_X10_drumByDay_0 28 rfl) ?_
  obtain ⟨h3, hf⟩ := cG_some hf
  obtain ⟨σ4, e_σ4, hf⟩ := cL_some hf
  refine r_iast G w k_s0.1 k_s0.2 h3 (dcs_get dec_X10_drumByDay_0 29 rfl) (fun H locs w => ?_)
  have w := Wd.nm e_σ4 w
  refine lv_aload_n G.hx G.hb (dcs_get dec_X10_drumByDay_0 30 rfl) rfl (lv_at hl 0 rfl) ?_
  refine lv_dup G.hx G.hb (dcs_get dec_X10_drumByDay_0 31 rfl) rfl ?_
  refine r_geti (k := 7) cls10 fi_10_7.1 fi_10_7.2 q_246 G w k_a0.1 k_a0.2 (dcs_get dec_X10_drumByDay_0 32 rfl) ?_
  refine lv_iconst (v := (1 : Int32)) G.hx G.hb (dcs_get dec_X10_drumByDay_0 33 rfl) (by decide) ?_
  refine lv_iadd G.hx G.hb (dcs_get dec_X10_drumByDay_0 34 rfl) ?_
  obtain ⟨σ5, e_σ5, hf⟩ := cL_some hf
  refine r_puti (k := 7) cls10 ct10 fi_10_7.1 fi_10_7.2 fp_10_7.1 fp_10_7.2 q_246 rfl rfl G w k_a0.1 k_a0.2 (dcs_get dec_X10_drumByDay_0 35 rfl) (fun H locs w => ?_)
  have w := Wd.nm e_σ5 w
  refine lv_iload G.hx G.hb (dcs_get dec_X10_drumByDay_0 36 rfl) (lv_at hl 4 rfl) ?_
  refine lv_iconst (v := (1 : Int32)) G.hx G.hb (dcs_get dec_X10_drumByDay_0 37 rfl) (by decide) ?_
  refine lv_iload_n G.hx G.hb (dcs_get dec_X10_drumByDay_0 38 rfl) rfl (lv_at hl 1 rfl) ?_
  refine lv_ishl G.hx G.hb (dcs_get dec_X10_drumByDay_0 39 rfl) ?_
  refine lv_iconst (v := (-1 : Int32)) G.hx G.hb (dcs_get dec_X10_drumByDay_1 0 rfl) (by decide) ?_
  refine lv_ixor G.hx G.hb (dcs_get dec_X10_drumByDay_1 1 rfl) ?_
  refine lv_iand G.hx G.hb (dcs_get dec_X10_drumByDay_1 2 rfl) ?_
  refine lv_bipush (v := (6 : Int32)) G.hx G.hb (dcs_get dec_X10_drumByDay_1 3 rfl) (by decide) ?_
  refine lv_iload_n G.hx G.hb (dcs_get dec_X10_drumByDay_1 4 rfl) rfl (lv_at hl 2 rfl) ?_
  refine lv_imul G.hx G.hb (dcs_get dec_X10_drumByDay_1 5 rfl) ?_
  refine lv_ishl G.hx G.hb (dcs_get dec_X10_drumByDay_1 6 rfl) ?_
  obtain ⟨v6, e_v6, hf⟩ := cL_some hf
  refine r_topi e_v6 ?_
  refine lv_istore (lv' := [(5, .int v6), (0, .ref (ad a0)), (1, .int l1), (2, .int l2), (3, .int l3), (4, .int l4)]) G.hx G.hb (dcs_get dec_X10_drumByDay_1 7 rfl) hl (by decide) rfl (fun ls hl => ?_)
  refine lv_iload_n G.hx G.hb (dcs_get dec_X10_drumByDay_1 8 rfl) rfl (lv_at hl 4 rfl) ?_
  refine lv_if_eq (tgt := 93) G.hx G.hb (dcs_get dec_X10_drumByDay_1 9 rfl) (by decide) (fun hc => ?_) (fun hc => ?_)
  · rw [if_pos hc] at hf
    refine lv_aload_n G.hx G.hb (dcs_get dec_X10_drumByDay_1 17 rfl) rfl (lv_at hl 1 rfl) ?_
    refine lv_dup G.hx G.hb (dcs_get dec_X10_drumByDay_1 18 rfl) rfl ?_
    refine r_geti (k := 3) cls10 fi_10_3.1 fi_10_3.2 q_242 G w k_a0.1 k_a0.2 (dcs_get dec_X10_drumByDay_1 19 rfl) ?_
    refine lv_iload G.hx G.hb (dcs_get dec_X10_drumByDay_1 20 rfl) (lv_at hl 0 rfl) ?_
    refine lv_ior G.hx G.hb (dcs_get dec_X10_drumByDay_1 21 rfl) ?_
    obtain ⟨σ7, e_σ7, hf⟩ := cL_some hf
    refine r_puti (k := 3) cls10 ct10 fi_10_3.1 fi_10_3.2 fp_10_3.1 fp_10_3.2 q_242 rfl rfl G w k_a0.1 k_a0.2 (dcs_get dec_X10_drumByDay_1 22 rfl) (fun H locs w => ?_)
    have w := Wd.nm e_σ7 w
    exact B_X10_drumByDay_104 a0 l1 l2 l3 l4 σ7 G hm ok_a0 hf  w (lv_sub hl [1, 2, 3, 4, 5] rfl)
  · rw [if_neg hc] at hf
    refine lv_aload_n G.hx G.hb (dcs_get dec_X10_drumByDay_1 10 rfl) rfl (lv_at hl 1 rfl) ?_
    refine lv_dup G.hx G.hb (dcs_get dec_X10_drumByDay_1 11 rfl) rfl ?_
    refine r_geti (k := 4) cls10 fi_10_4.1 fi_10_4.2 q_243 G w k_a0.1 k_a0.2 (dcs_get dec_X10_drumByDay_1 12 rfl) ?_
    refine lv_iload G.hx G.hb (dcs_get dec_X10_drumByDay_1 13 rfl) (lv_at hl 0 rfl) ?_
    refine lv_ior G.hx G.hb (dcs_get dec_X10_drumByDay_1 14 rfl) ?_
    obtain ⟨σ8, e_σ8, hf⟩ := cL_some hf
    refine r_puti (k := 4) cls10 ct10 fi_10_4.1 fi_10_4.2 fp_10_4.1 fp_10_4.2 q_243 rfl rfl G w k_a0.1 k_a0.2 (dcs_get dec_X10_drumByDay_1 15 rfl) (fun H locs w => ?_)
    have w := Wd.nm e_σ8 w
    refine lv_goto (tgt := 104) G.hx G.hb (dcs_get dec_X10_drumByDay_1 16 rfl) (by decide) ?_
    exact B_X10_drumByDay_104 a0 l1 l2 l3 l4 σ8 G hm ok_a0 hf  w (lv_sub hl [1, 2, 3, 4, 5] rfl)
set_option maxRecDepth 100000 in
set_option maxHeartbeats 4000000 in
theorem B_X10_drumByDay_0 {H : Heap} {locs : List Loc} {ls : Array Slot} {σ0 : hSt} (a0 : Nat) (l1 : Int32) (l2 : Int32) (l3 : Int32) (l4 : Int32) (σ : hSt) (G : Gx p m c cX10_drumByDay 6 s args RX10 D ay NC ad (aN NC ad)) (hm : meth.sig.returnType = none ∧ meth.locks = false) (ok_a0 : okr kC NC 10 a0 = true) (hf : F_X10_drumByDay a0 l1 l2 l3 l4 σ = some σ0)  (w : Wd D ay kC NC ad (aN NC ad) s σ H locs) (hl : lv_has ls 6 [(0, .ref (ad a0)), (1, .int l1), (2, .int l2), (3, .int l3), (4, .int l4)]) : W p l e (rmK 2 49) s m args below meth c H locs 0 0 (MQ below (cV D ay kC NC ad σ0) args s 0 0 (aN NC ad)) (F0 m 0 ls []) := by
  have k_a0 := okr_in ok_a0
  unfold F_X10_drumByDay at hf
  refine lv_aload_n G.hx G.hb (dcs_get dec_X10_drumByDay_0 0 rfl) rfl (lv_at hl 0 rfl) ?_
  refine r_geti (k := 7) cls10 fi_10_7.1 fi_10_7.2 q_246 G w k_a0.1 k_a0.2 (dcs_get dec_X10_drumByDay_0 1 rfl) ?_
  refine lv_if_lt (tgt := 16) G.hx G.hb (dcs_get dec_X10_drumByDay_0 2 rfl) (by decide) (fun hc => ?_) (fun hc => ?_)
  · rw [if_pos hc] at hf
    exact B_X10_drumByDay_16  σ G hm  hf  w (lv_sub hl [] rfl)
  · rw [if_neg hc] at hf
    refine lv_aload_n G.hx G.hb (dcs_get dec_X10_drumByDay_0 3 rfl) rfl (lv_at hl 0 rfl) ?_
    refine r_geti (k := 7) cls10 fi_10_7.1 fi_10_7.2 q_246 G w k_a0.1 k_a0.2 (dcs_get dec_X10_drumByDay_0 4 rfl) ?_
    refine lv_bipush (v := (60 : Int32)) G.hx G.hb (dcs_get dec_X10_drumByDay_0 5 rfl) (by decide) ?_
    refine lv_icmp_lt (tgt := 17) G.hx G.hb (dcs_get dec_X10_drumByDay_0 6 rfl) (by decide) (fun hc => ?_) (fun hc => ?_)
    · rw [if_pos hc] at hf
      refine lv_aload_n G.hx G.hb (dcs_get dec_X10_drumByDay_0 8 rfl) rfl (lv_at hl 0 rfl) ?_
      obtain ⟨z9, e_z9, ok_z9, hf⟩ := cR_some hf
      have k_z9 := okr_in ok_z9
      refine r_getr (k := 11) cls10 fi_10_11.1 fi_10_11.2 q_255 G w k_a0.1 k_a0.2 e_z9 (dcs_get dec_X10_drumByDay_0 9 rfl) ?_
      refine lv_aload_n G.hx G.hb (dcs_get dec_X10_drumByDay_0 10 rfl) rfl (lv_at hl 0 rfl) ?_
      refine r_geti (k := 7) cls10 fi_10_7.1 fi_10_7.2 q_246 G w k_a0.1 k_a0.2 (dcs_get dec_X10_drumByDay_0 11 rfl) ?_
      refine lv_iload G.hx G.hb (dcs_get dec_X10_drumByDay_0 12 rfl) (lv_at hl 4 rfl) ?_
      refine lv_bipush (v := (7 : Int32)) G.hx G.hb (dcs_get dec_X10_drumByDay_0 13 rfl) (by decide) ?_
      refine lv_ishl G.hx G.hb (dcs_get dec_X10_drumByDay_0 14 rfl) ?_
      refine lv_iload_n G.hx G.hb (dcs_get dec_X10_drumByDay_0 15 rfl) rfl (lv_at hl 3 rfl) ?_
      refine lv_if_eq (tgt := 38) G.hx G.hb (dcs_get dec_X10_drumByDay_0 16 rfl) (by decide) (fun hc => ?_) (fun hc => ?_)
      · rw [if_pos hc] at hf
        refine lv_iconst (v := (0 : Int32)) G.hx G.hb (dcs_get dec_X10_drumByDay_0 19 rfl) (by decide) ?_
        exact B_X10_drumByDay_39 a0 l1 l2 l3 l4 z9 (σ.1 a0 7) (l4 <<< ((7 : Int32) &&& 31)) (0 : Int32) σ G hm ok_a0 ok_z9 hf  w (lv_sub hl [0, 1, 2, 3, 4] rfl)
      · rw [if_neg hc] at hf
        refine lv_iconst (v := (1 : Int32)) G.hx G.hb (dcs_get dec_X10_drumByDay_0 17 rfl) (by decide) ?_
        refine lv_goto (tgt := 39) G.hx G.hb (dcs_get dec_X10_drumByDay_0 18 rfl) (by decide) ?_
        exact B_X10_drumByDay_39 a0 l1 l2 l3 l4 z9 (σ.1 a0 7) (l4 <<< ((7 : Int32) &&& 31)) (1 : Int32) σ G hm ok_a0 ok_z9 hf  w (lv_sub hl [0, 1, 2, 3, 4] rfl)
    · rw [if_neg hc] at hf
      exact B_X10_drumByDay_16  σ G hm  hf  w (lv_sub hl [] rfl)
end
set_option maxRecDepth 100000 in
set_option maxHeartbeats 4000000 in
theorem C_X10_drumByDay {l : Launch} {D : va_G} {ay : Nat → ClassId} {ad : Nat → Nat} (hi : hInj NC ad) (a0 : Nat) (l1 : Int32) (l2 : Int32) (l3 : Int32) (l4 : Int32) (σ : hSt) {σ0 : hSt} (hf : F_X10_drumByDay a0 l1 l2 l3 l4 σ = some σ0) (ok_a0 : okr kC NC 10 a0 = true) : hM l D ay kC NC ad yX10_drumByDay cX10_drumByDay 6 (none) (rmK 2 49) [.ref (ad a0), .int l1, .int l2, .int l3, .int l4] σ (cV D ay kC NC ad σ0) := by
  refine hM_in (by decide) hi (Nat.le_of_ble_eq_true rfl) ?_
  intro p e s m below meth c G hm w ls hl
  exact B_X10_drumByDay_0 a0 l1 l2 l3 l4 σ G hm ok_a0 hf w (lv_sub hl [0, 1, 2, 3, 4] rfl)

/-! HillDrums.World.beginAt(II)V -/
def DL_X10_beginAt_0 : List (Nat × Instr × Nat) := [(0, .iload_n 1, 1), (1, .iload_n 2, 1), (2, .invokestatic 61, 3), (5, .istore_n 3, 1), (6, .aload_n 0, 1), (7, .aload_n 0, 1), (8, .getfield 15, 3), (11, .bipush 63, 2), (13, .bipush 6, 2), (15, .iload_n 2, 1), (16, .imul, 1), (17, .ishl, 1), (18, .iconst (-1), 1), (19, .ixor, 1), (20, .iand, 1), (21, .iconst 1, 1), (22, .iload_n 3, 1), (23, .ishl, 1), (24, .ior, 1), (25, .putfield 15, 3), (28, .aload_n 0, 1), (29, .getfield 39, 3), (32, .iload_n 3, 1), (33, .iconst 0, 1), (34, .iastore, 1), (35, .aload_n 0, 1), (36, .getfield 43, 3), (39, .iload_n 3, 1), (40, .iload_n 1, 1), (41, .iastore, 1), (42, .return_, 1)]
set_option maxRecDepth 100000 in
theorem dec_X10_beginAt_0 : dcs cX10_beginAt DL_X10_beginAt_0 = true := by decide +kernel
theorem lb_X10_beginAt : lkB yX10_beginAt cX10_beginAt 4 (none) 2 := ⟨q_387, q_8, ⟨by decide, by decide⟩, by decide +kernel⟩
theorem lv_X10_beginAt : lkV yX10_beginAt := ⟨q_386, qs_4⟩
def F_X10_beginAt (a0 : Nat) (l1 : Int32) (l2 : Int32) (σ : hSt) : Option (hSt) :=
(F_X11_pairOf l1 l2 σ).bind fun v2 =>
cL (uI σ a0 1 (((σ.1 a0 1) &&& (((63 : Int32) <<< (((6 : Int32) * l2) &&& 31)) ^^^ (-1 : Int32))) ||| ((1 : Int32) <<< (v2 &&& 31)))) fun σ3 =>
cR (σ3.2.2 a0 9) (okr kC NC 101) fun z4 =>
cG (inb v2 (kC z4).2) <|
cL (uI σ3 z4 v2.toNatClampNeg (0 : Int32)) fun σ6 =>
cR (σ6.2.2 a0 10) (okr kC NC 101) fun z7 =>
cG (inb v2 (kC z7).2) <|
cL (uI σ6 z7 v2.toNatClampNeg l1) fun σ9 =>
some (σ9)
section
variable {p : Program} {l : Launch} {e : Env} {s : State} {m : MethodId} {args : Array Value} {below : List Frame} {meth : Method} {c : Code} {D : va_G} {ay : Nat → ClassId} {ad : Nat → Nat}
set_option maxRecDepth 100000 in
set_option maxHeartbeats 4000000 in
theorem B_X10_beginAt_0 {H : Heap} {locs : List Loc} {ls : Array Slot} {σ0 : hSt} (a0 : Nat) (l1 : Int32) (l2 : Int32) (σ : hSt) (G : Gx p m c cX10_beginAt 4 s args RX10 D ay NC ad (aN NC ad)) (hm : meth.sig.returnType = none ∧ meth.locks = false) (ok_a0 : okr kC NC 10 a0 = true) (hf : F_X10_beginAt a0 l1 l2 σ = some σ0)  (w : Wd D ay kC NC ad (aN NC ad) s σ H locs) (hl : lv_has ls 4 [(0, .ref (ad a0)), (1, .int l1), (2, .int l2)]) : W p l e (rmK 1 21) s m args below meth c H locs 0 0 (MQ below (cV D ay kC NC ad σ0) args s 0 0 (aN NC ad)) (F0 m 0 ls []) := by
  have k_a0 := okr_in ok_a0
  unfold F_X10_beginAt at hf
  refine lv_iload_n G.hx G.hb (dcs_get dec_X10_beginAt_0 0 rfl) rfl (lv_at hl 1 rfl) ?_
  refine lv_iload_n G.hx G.hb (dcs_get dec_X10_beginAt_0 1 rfl) rfl (lv_at hl 2 rfl) ?_
  obtain ⟨v2, h1, hf⟩ := cB_some hf
  refine a_i (k_SN (As := [.int l1, .int l2]) (rest := []) lb_X11_pairOf q_389 nm_388 (C_X11_pairOf G.2.2.1 l1 l2 σ h1 ) ⟨(Nat.le_of_ble_eq_true rfl), (Nat.le_of_ble_eq_true rfl)⟩ G w rfl rfl hl.1 (Nat.le_of_ble_eq_true rfl) (dcs_get dec_X10_beginAt_0 2 rfl) ⟨Nat.le_refl _, Nat.le_refl _⟩) G w (fun H locs w => ?_)
  refine lv_istore_n (lv' := [(3, .int v2), (0, .ref (ad a0)), (1, .int l1), (2, .int l2)]) G.hx G.hb (dcs_get dec_X10_beginAt_0 3 rfl) rfl hl (by decide) rfl (fun ls hl => ?_)
  refine lv_aload_n G.hx G.hb (dcs_get dec_X10_beginAt_0 4 rfl) rfl (lv_at hl 1 rfl) ?_
  refine lv_aload_n G.hx G.hb (dcs_get dec_X10_beginAt_0 5 rfl) rfl (lv_at hl 1 rfl) ?_
  refine r_geti (k := 1) cls10 fi_10_1.1 fi_10_1.2 q_237 G w k_a0.1 k_a0.2 (dcs_get dec_X10_beginAt_0 6 rfl) ?_
  refine lv_bipush (v := (63 : Int32)) G.hx G.hb (dcs_get dec_X10_beginAt_0 7 rfl) (by decide) ?_
  refine lv_bipush (v := (6 : Int32)) G.hx G.hb (dcs_get dec_X10_beginAt_0 8 rfl) (by decide) ?_
  refine lv_iload_n G.hx G.hb (dcs_get dec_X10_beginAt_0 9 rfl) rfl (lv_at hl 3 rfl) ?_
  refine lv_imul G.hx G.hb (dcs_get dec_X10_beginAt_0 10 rfl) ?_
  refine lv_ishl G.hx G.hb (dcs_get dec_X10_beginAt_0 11 rfl) ?_
  refine lv_iconst (v := (-1 : Int32)) G.hx G.hb (dcs_get dec_X10_beginAt_0 12 rfl) (by decide) ?_
  refine lv_ixor G.hx G.hb (dcs_get dec_X10_beginAt_0 13 rfl) ?_
  refine lv_iand G.hx G.hb (dcs_get dec_X10_beginAt_0 14 rfl) ?_
  refine lv_iconst (v := (1 : Int32)) G.hx G.hb (dcs_get dec_X10_beginAt_0 15 rfl) (by decide) ?_
  refine lv_iload_n G.hx G.hb (dcs_get dec_X10_beginAt_0 16 rfl) rfl (lv_at hl 0 rfl) ?_
  refine lv_ishl G.hx G.hb (dcs_get dec_X10_beginAt_0 17 rfl) ?_
  refine lv_ior G.hx G.hb (dcs_get dec_X10_beginAt_0 18 rfl) ?_
  obtain ⟨σ3, e_σ3, hf⟩ := cL_some hf
  refine r_puti (k := 1) cls10 ct10 fi_10_1.1 fi_10_1.2 fp_10_1.1 fp_10_1.2 q_237 rfl rfl G w k_a0.1 k_a0.2 (dcs_get dec_X10_beginAt_0 19 rfl) (fun H locs w => ?_)
  have w := Wd.nm e_σ3 w
  refine lv_aload_n G.hx G.hb (dcs_get dec_X10_beginAt_0 20 rfl) rfl (lv_at hl 1 rfl) ?_
  obtain ⟨z4, e_z4, ok_z4, hf⟩ := cR_some hf
  have k_z4 := okr_in ok_z4
  refine r_getr (k := 9) cls10 fi_10_9.1 fi_10_9.2 q_250 G w k_a0.1 k_a0.2 e_z4 (dcs_get dec_X10_beginAt_0 21 rfl) ?_
  refine lv_iload_n G.hx G.hb (dcs_get dec_X10_beginAt_0 22 rfl) rfl (lv_at hl 0 rfl) ?_
  refine lv_iconst (v := (0 : Int32)) G.hx G.hb (dcs_get dec_X10_beginAt_0 23 rfl) (by decide) ?_
  obtain ⟨h5, hf⟩ := cG_some hf
  obtain ⟨σ6, e_σ6, hf⟩ := cL_some hf
  refine r_iast G w k_z4.1 k_z4.2 h5 (dcs_get dec_X10_beginAt_0 24 rfl) (fun H locs w => ?_)
  have w := Wd.nm e_σ6 w
  refine lv_aload_n G.hx G.hb (dcs_get dec_X10_beginAt_0 25 rfl) rfl (lv_at hl 1 rfl) ?_
  obtain ⟨z7, e_z7, ok_z7, hf⟩ := cR_some hf
  have k_z7 := okr_in ok_z7
  refine r_getr (k := 10) cls10 fi_10_10.1 fi_10_10.2 q_253 G w k_a0.1 k_a0.2 e_z7 (dcs_get dec_X10_beginAt_0 26 rfl) ?_
  refine lv_iload_n G.hx G.hb (dcs_get dec_X10_beginAt_0 27 rfl) rfl (lv_at hl 0 rfl) ?_
  refine lv_iload_n G.hx G.hb (dcs_get dec_X10_beginAt_0 28 rfl) rfl (lv_at hl 2 rfl) ?_
  obtain ⟨h8, hf⟩ := cG_some hf
  obtain ⟨σ9, e_σ9, hf⟩ := cL_some hf
  refine r_iast G w k_z7.1 k_z7.2 h8 (dcs_get dec_X10_beginAt_0 29 rfl) (fun H locs w => ?_)
  have w := Wd.nm e_σ9 w
  have e9 := Option.some.inj hf
  exact r_vret G w hm e9 (dcs_get dec_X10_beginAt_0 30 rfl)
end
set_option maxRecDepth 100000 in
set_option maxHeartbeats 4000000 in
theorem C_X10_beginAt {l : Launch} {D : va_G} {ay : Nat → ClassId} {ad : Nat → Nat} (hi : hInj NC ad) (a0 : Nat) (l1 : Int32) (l2 : Int32) (σ : hSt) {σ0 : hSt} (hf : F_X10_beginAt a0 l1 l2 σ = some σ0) (ok_a0 : okr kC NC 10 a0 = true) : hM l D ay kC NC ad yX10_beginAt cX10_beginAt 4 (none) (rmK 1 21) [.ref (ad a0), .int l1, .int l2] σ (cV D ay kC NC ad σ0) := by
  refine hM_in (by decide) hi (Nat.le_of_ble_eq_true rfl) ?_
  intro p e s m below meth c G hm w ls hl
  exact B_X10_beginAt_0 a0 l1 l2 σ G hm ok_a0 hf w (lv_sub hl [0, 1, 2] rfl)

/-! HillDrums.World.begin(LHillDrums$Text;)V -/
def DL_X10_begin_0 : List (Nat × Instr × Nat) := [(0, .aload_n 0, 1), (1, .iconst 0, 1), (2, .putfield 9, 3), (5, .aload_n 0, 1), (6, .iconst 0, 1), (7, .putfield 15, 3), (10, .aload_n 0, 1), (11, .iconst 0, 1), (12, .putfield 18, 3), (15, .aload_n 0, 1), (16, .iconst 0, 1), (17, .putfield 21, 3), (20, .aload_n 0, 1), (21, .iconst 0, 1), (22, .putfield 24, 3), (25, .aload_n 0, 1), (26, .iconst 0, 1), (27, .putfield 27, 3), (30, .aload_n 0, 1), (31, .iconst 0, 1), (32, .putfield 30, 3), (35, .aload_n 0, 1), (36, .iconst 0, 1), (37, .putfield 33, 3), (40, .aload_n 0, 1), (41, .iconst 0, 1), (42, .putfield 36, 3), (45, .iconst 0, 1), (46, .istore_n 2, 1), (47, .iload_n 2, 1), (48, .aload_n 1, 1), (49, .getfield 49, 3), (52, .if_icmp .ge 20, 3), (55, .aload_n 0, 1), (56, .aload_n 1, 1), (57, .getfield 54, 3), (60, .iload_n 2, 1), (61, .iaload, 1), (62, .iload_n 2, 1), (63, .invokevirtual 57, 3)]
set_option maxRecDepth 100000 in
theorem dec_X10_begin_0 : dcs cX10_begin DL_X10_begin_0 = true := by decide +kernel
def DL_X10_begin_1 : List (Nat × Instr × Nat) := [(66, .iinc 2 1, 3), (69, .goto (-22), 3), (72, .return_, 1)]
set_option maxRecDepth 100000 in
theorem dec_X10_begin_1 : dcs cX10_begin DL_X10_begin_1 = true := by decide +kernel
theorem lb_X10_begin : lkB yX10_begin cX10_begin 3 (none) 1 := ⟨q_383, q_8, ⟨by decide, by decide⟩, by decide +kernel⟩
theorem lv_X10_begin : lkV yX10_begin := ⟨q_382, qs_3⟩
def F_X10_begin_47b (a0 : Nat) (a1 : Nat) (l2 : Int32) (σ : hSt) : Option ((Int32 × hSt) ⊕ (hSt)) :=
if (σ.1 a1 3) ≤ l2 then (
some (.inr (σ))) else (
cR (σ.2.2 a1 4) (okr kC NC 101) fun z1 =>
cG (inb l2 (kC z1).2) <|
(F_X10_beginAt a0 (σ.1 z1 l2.toNatClampNeg) l2 σ).bind fun σ4 =>
cL (l2 + (1 : Int32)) fun v5 =>
some (.inl (v5, σ4)))
def S_X10_begin_47 (a0 : Nat) (a1 : Nat) (v : Int32 × hSt) : Option ((Int32 × hSt) ⊕ (hSt)) := F_X10_begin_47b a0 a1 v.1 v.2
def F_X10_begin_47 (a0 : Nat) (a1 : Nat) (l2 : Int32) (σ : hSt) : Option (hSt) := lp (S_X10_begin_47 a0 a1) fuel (l2, σ)
def F_X10_begin (a0 : Nat) (a1 : Nat) (σ : hSt) : Option (hSt) :=
cL (uI σ a0 0 (0 : Int32)) fun σ6 =>
cL (uI σ6 a0 1 (0 : Int32)) fun σ7 =>
cL (uI σ7 a0 2 (0 : Int32)) fun σ8 =>
cL (uI σ8 a0 3 (0 : Int32)) fun σ9 =>
cL (uI σ9 a0 4 (0 : Int32)) fun σ10 =>
cL (uI σ10 a0 5 (0 : Int32)) fun σ11 =>
cL (uI σ11 a0 6 (0 : Int32)) fun σ12 =>
cL (uI σ12 a0 7 (0 : Int32)) fun σ13 =>
cL (uI σ13 a0 8 (0 : Int32)) fun σ14 =>
F_X10_begin_47 a0 a1 (0 : Int32) σ14
section
variable {p : Program} {l : Launch} {e : Env} {s : State} {m : MethodId} {args : Array Value} {below : List Frame} {meth : Method} {c : Code} {D : va_G} {ay : Nat → ClassId} {ad : Nat → Nat}
set_option maxRecDepth 100000 in
set_option maxHeartbeats 4000000 in
theorem B_X10_begin_47b {H : Heap} {locs : List Loc} {ls : Array Slot} {σ0 : hSt} {o : (Int32 × hSt) ⊕ (hSt)} (a0 : Nat) (a1 : Nat) (l2 : Int32) (σ : hSt) (G : Gx p m c cX10_begin 3 s args RX10 D ay NC ad (aN NC ad)) (hm : meth.sig.returnType = none ∧ meth.locks = false) (ok_a0 : okr kC NC 10 a0 = true) (ok_a1 : okr kC NC 7 a1 = true) (hf : F_X10_begin_47b a0 a1 l2 σ = some o) (hb0 : ∀ (v : Int32 × hSt), o = .inl v → ∀ (H : Heap) (locs : List Loc) (ls : Array Slot), Wd D ay kC NC ad (aN NC ad) s v.2 H locs → lv_has ls 3 [(0, .ref (ad a0)), (1, .ref (ad a1)), (2, .int v.1)] → W p l e (rmK 2 44) s m args below meth c H locs 0 0 (MQ below (cV D ay kC NC ad σ0) args s 0 0 (aN NC ad)) (F0 m 47 ls [])) (hr : ∀ x, o = .inr (x) → x = σ0) (w : Wd D ay kC NC ad (aN NC ad) s σ H locs) (hl : lv_has ls 3 [(0, .ref (ad a0)), (1, .ref (ad a1)), (2, .int l2)]) : W p l e (rmK 2 44) s m args below meth c H locs 0 0 (MQ below (cV D ay kC NC ad σ0) args s 0 0 (aN NC ad)) (F0 m 47 ls []) := by
  have k_a0 := okr_in ok_a0
  have k_a1 := okr_in ok_a1
  unfold F_X10_begin_47b at hf
  refine lv_iload_n G.hx G.hb (dcs_get dec_X10_begin_0 29 rfl) rfl (lv_at hl 2 rfl) ?_
  refine lv_aload_n G.hx G.hb (dcs_get dec_X10_begin_0 30 rfl) rfl (lv_at hl 1 rfl) ?_
  refine r_getiN (k := 3) cls7 fi_7_3.1 fi_7_3.2 nf_102 G w k_a1.1 k_a1.2 (dcs_get dec_X10_begin_0 31 rfl) ?_
  refine lv_icmp_ge (tgt := 72) G.hx G.hb (dcs_get dec_X10_begin_0 32 rfl) (by decide) (fun hc => ?_) (fun hc => ?_)
  · rw [if_pos hc] at hf
    have e9 := hr _ (Option.some.inj hf).symm
    exact r_vret G w hm e9 (dcs_get dec_X10_begin_1 2 rfl)
  · rw [if_neg hc] at hf
    refine lv_aload_n G.hx G.hb (dcs_get dec_X10_begin_0 33 rfl) rfl (lv_at hl 0 rfl) ?_
    refine lv_aload_n G.hx G.hb (dcs_get dec_X10_begin_0 34 rfl) rfl (lv_at hl 1 rfl) ?_
    obtain ⟨z1, e_z1, ok_z1, hf⟩ := cR_some hf
    have k_z1 := okr_in ok_z1
    refine r_getrN (k := 4) cls7 fi_7_4.1 fi_7_4.2 nf_107 G w k_a1.1 k_a1.2 e_z1 (dcs_get dec_X10_begin_0 35 rfl) ?_
    refine lv_iload_n G.hx G.hb (dcs_get dec_X10_begin_0 36 rfl) rfl (lv_at hl 2 rfl) ?_
    obtain ⟨h2, hf⟩ := cG_some hf
    refine r_iald G w k_z1.1 k_z1.2 h2 (dcs_get dec_X10_begin_0 37 rfl) ?_
    refine lv_iload_n G.hx G.hb (dcs_get dec_X10_begin_0 38 rfl) rfl (lv_at hl 2 rfl) ?_
    obtain ⟨σ4, h3, hf⟩ := cB_some hf
    refine a_v (k_V (As := [.int (σ.1 z1 l2.toNatClampNeg), .int l2]) (rest := []) cls10 lb_X10_beginAt lv_X10_beginAt q_384 (C_X10_beginAt G.2.2.1 a0 (σ.1 z1 l2.toNatClampNeg) l2 σ h3 ok_a0) ⟨(Nat.le_of_ble_eq_true rfl), (Nat.le_of_ble_eq_true rfl)⟩ G w k_a0.1 k_a0.2 rfl rfl hl.1 (Nat.le_of_ble_eq_true rfl) (dcs_get dec_X10_begin_0 39 rfl) ⟨Nat.le_refl _, Nat.le_refl _⟩) G w (fun H locs w => ?_)
    obtain ⟨v5, e_v5, hf⟩ := cL_some hf
    refine lv_iinc (v := v5) (lv' := [(2, .int v5), (0, .ref (ad a0)), (1, .ref (ad a1))]) G.hx G.hb (dcs_get dec_X10_begin_1 0 rfl) hl (k := 2) rfl (by rw [e_v5]; rfl) (by decide) rfl (fun ls hl => ?_)
    refine lv_goto (tgt := 47) G.hx G.hb (dcs_get dec_X10_begin_1 1 rfl) (by decide) ?_
    exact hb0 _ (Option.some.inj hf).symm _ _ _ w (lv_sub hl [1, 2, 0] rfl)
set_option maxRecDepth 100000 in
set_option maxHeartbeats 4000000 in
theorem H_X10_begin_47 {σ0 : hSt} (a0 : Nat) (a1 : Nat) (G : Gx p m c cX10_begin 3 s args RX10 D ay NC ad (aN NC ad)) (hm : meth.sig.returnType = none ∧ meth.locks = false) (ok_a0 : okr kC NC 10 a0 = true) (ok_a1 : okr kC NC 7 a1 = true)  : ∀ (k : Nat) (v : Int32 × hSt), lp (S_X10_begin_47 a0 a1) k v = some σ0 → ∀ (H : Heap) (locs : List Loc) (ls : Array Slot), Wd D ay kC NC ad (aN NC ad) s v.2 H locs → lv_has ls 3 [(0, .ref (ad a0)), (1, .ref (ad a1)), (2, .int v.1)] → W p l e (rmK 2 44) s m args below meth c H locs 0 0 (MQ below (cV D ay kC NC ad σ0) args s 0 0 (aN NC ad)) (F0 m 47 ls []) := by
  intro k
  induction k with
  | zero => intro v hf; cases hf
  | succ k ih =>
    intro v hf H locs ls w hl
    obtain ⟨o1, h1, h2, h3⟩ := lp_some hf
    exact B_X10_begin_47b a0 a1 v.1 v.2 G hm ok_a0 ok_a1 h1  (fun v' e => ih v' (h2 v' e)) (fun x e => h3 x e) w hl
set_option maxRecDepth 100000 in
set_option maxHeartbeats 4000000 in
theorem B_X10_begin_47 {H : Heap} {locs : List Loc} {ls : Array Slot} {σ0 : hSt} (a0 : Nat) (a1 : Nat) (l2 : Int32) (σ : hSt) (G : Gx p m c cX10_begin 3 s args RX10 D ay NC ad (aN NC ad)) (hm : meth.sig.returnType = none ∧ meth.locks = false) (ok_a0 : okr kC NC 10 a0 = true) (ok_a1 : okr kC NC 7 a1 = true) (hf : F_X10_begin_47 a0 a1 l2 σ = some σ0)  (w : Wd D ay kC NC ad (aN NC ad) s σ H locs) (hl : lv_has ls 3 [(0, .ref (ad a0)), (1, .ref (ad a1)), (2, .int l2)]) : W p l e (rmK 2 44) s m args below meth c H locs 0 0 (MQ below (cV D ay kC NC ad σ0) args s 0 0 (aN NC ad)) (F0 m 47 ls []) := by
  unfold F_X10_begin_47 at hf
  exact H_X10_begin_47 a0 a1  G hm ok_a0 ok_a1  fuel (l2, σ) hf _ _ _ w hl
set_option maxRecDepth 100000 in
set_option maxHeartbeats 4000000 in
theorem B_X10_begin_0 {H : Heap} {locs : List Loc} {ls : Array Slot} {σ0 : hSt} (a0 : Nat) (a1 : Nat) (σ : hSt) (G : Gx p m c cX10_begin 3 s args RX10 D ay NC ad (aN NC ad)) (hm : meth.sig.returnType = none ∧ meth.locks = false) (ok_a0 : okr kC NC 10 a0 = true) (ok_a1 : okr kC NC 7 a1 = true) (hf : F_X10_begin a0 a1 σ = some σ0)  (w : Wd D ay kC NC ad (aN NC ad) s σ H locs) (hl : lv_has ls 3 [(0, .ref (ad a0)), (1, .ref (ad a1))]) : W p l e (rmK 2 44) s m args below meth c H locs 0 0 (MQ below (cV D ay kC NC ad σ0) args s 0 0 (aN NC ad)) (F0 m 0 ls []) := by
  have k_a0 := okr_in ok_a0
  have k_a1 := okr_in ok_a1
  unfold F_X10_begin at hf
  refine lv_aload_n G.hx G.hb (dcs_get dec_X10_begin_0 0 rfl) rfl (lv_at hl 0 rfl) ?_
  refine lv_iconst (v := (0 : Int32)) G.hx G.hb (dcs_get dec_X10_begin_0 1 rfl) (by decide) ?_
  obtain ⟨σ6, e_σ6, hf⟩ := cL_some hf
  refine r_puti (k := 0) cls10 ct10 fi_10_0.1 fi_10_0.2 fp_10_0.1 fp_10_0.2 q_233 rfl rfl G w k_a0.1 k_a0.2 (dcs_get dec_X10_begin_0 2 rfl) (fun H locs w => ?_)
  have w := Wd.nm e_σ6 w
  refine lv_aload_n G.hx G.hb (dcs_get dec_X10_begin_0 3 rfl) rfl (lv_at hl 0 rfl) ?_
  refine lv_iconst (v := (0 : Int32)) G.hx G.hb (dcs_get dec_X10_begin_0 4 rfl) (by decide) ?_
  obtain ⟨σ7, e_σ7, hf⟩ := cL_some hf
  refine r_puti (k := 1) cls10 ct10 fi_10_1.1 fi_10_1.2 fp_10_1.1 fp_10_1.2 q_237 rfl rfl G w k_a0.1 k_a0.2 (dcs_get dec_X10_begin_0 5 rfl) (fun H locs w => ?_)
  have w := Wd.nm e_σ7 w
  refine lv_aload_n G.hx G.hb (dcs_get dec_X10_begin_0 6 rfl) rfl (lv_at hl 0 rfl) ?_
  refine lv_iconst (v := (0 : Int32)) G.hx G.hb (dcs_get dec_X10_begin_0 7 rfl) (by decide) ?_
  obtain ⟨σ8, e_σ8, hf⟩ := cL_some hf
  refine r_puti (k := 2) cls10 ct10 fi_10_2.1 fi_10_2.2 fp_10_2.1 fp_10_2.2 q_240 rfl rfl G w k_a0.1 k_a0.2 (dcs_get dec_X10_begin_0 8 rfl) (fun H locs w => ?_)
  have w := Wd.nm e_σ8 w
  refine lv_aload_n G.hx G.hb (dcs_get dec_X10_begin_0 9 rfl) rfl (lv_at hl 0 rfl) ?_
  refine lv_iconst (v := (0 : Int32)) G.hx G.hb (dcs_get dec_X10_begin_0 10 rfl) (by decide) ?_
  obtain ⟨σ9, e_σ9, hf⟩ := cL_some hf
  refine r_puti (k := 3) cls10 ct10 fi_10_3.1 fi_10_3.2 fp_10_3.1 fp_10_3.2 q_242 rfl rfl G w k_a0.1 k_a0.2 (dcs_get dec_X10_begin_0 11 rfl) (fun H locs w => ?_)
  have w := Wd.nm e_σ9 w
  refine lv_aload_n G.hx G.hb (dcs_get dec_X10_begin_0 12 rfl) rfl (lv_at hl 0 rfl) ?_
  refine lv_iconst (v := (0 : Int32)) G.hx G.hb (dcs_get dec_X10_begin_0 13 rfl) (by decide) ?_
  obtain ⟨σ10, e_σ10, hf⟩ := cL_some hf
  refine r_puti (k := 4) cls10 ct10 fi_10_4.1 fi_10_4.2 fp_10_4.1 fp_10_4.2 q_243 rfl rfl G w k_a0.1 k_a0.2 (dcs_get dec_X10_begin_0 14 rfl) (fun H locs w => ?_)
  have w := Wd.nm e_σ10 w
  refine lv_aload_n G.hx G.hb (dcs_get dec_X10_begin_0 15 rfl) rfl (lv_at hl 0 rfl) ?_
  refine lv_iconst (v := (0 : Int32)) G.hx G.hb (dcs_get dec_X10_begin_0 16 rfl) (by decide) ?_
  obtain ⟨σ11, e_σ11, hf⟩ := cL_some hf
  refine r_puti (k := 5) cls10 ct10 fi_10_5.1 fi_10_5.2 fp_10_5.1 fp_10_5.2 q_244 rfl rfl G w k_a0.1 k_a0.2 (dcs_get dec_X10_begin_0 17 rfl) (fun H locs w => ?_)
  have w := Wd.nm e_σ11 w
  refine lv_aload_n G.hx G.hb (dcs_get dec_X10_begin_0 18 rfl) rfl (lv_at hl 0 rfl) ?_
  refine lv_iconst (v := (0 : Int32)) G.hx G.hb (dcs_get dec_X10_begin_0 19 rfl) (by decide) ?_
  obtain ⟨σ12, e_σ12, hf⟩ := cL_some hf
  refine r_puti (k := 6) cls10 ct10 fi_10_6.1 fi_10_6.2 fp_10_6.1 fp_10_6.2 q_245 rfl rfl G w k_a0.1 k_a0.2 (dcs_get dec_X10_begin_0 20 rfl) (fun H locs w => ?_)
  have w := Wd.nm e_σ12 w
  refine lv_aload_n G.hx G.hb (dcs_get dec_X10_begin_0 21 rfl) rfl (lv_at hl 0 rfl) ?_
  refine lv_iconst (v := (0 : Int32)) G.hx G.hb (dcs_get dec_X10_begin_0 22 rfl) (by decide) ?_
  obtain ⟨σ13, e_σ13, hf⟩ := cL_some hf
  refine r_puti (k := 7) cls10 ct10 fi_10_7.1 fi_10_7.2 fp_10_7.1 fp_10_7.2 q_246 rfl rfl G w k_a0.1 k_a0.2 (dcs_get dec_X10_begin_0 23 rfl) (fun H locs w => ?_)
  have w := Wd.nm e_σ13 w
  refine lv_aload_n G.hx G.hb (dcs_get dec_X10_begin_0 24 rfl) rfl (lv_at hl 0 rfl) ?_
  refine lv_iconst (v := (0 : Int32)) G.hx G.hb (dcs_get dec_X10_begin_0 25 rfl) (by decide) ?_
  obtain ⟨σ14, e_σ14, hf⟩ := cL_some hf
  refine r_puti (k := 8) cls10 ct10 fi_10_8.1 fi_10_8.2 fp_10_8.1 fp_10_8.2 q_248 rfl rfl G w k_a0.1 k_a0.2 (dcs_get dec_X10_begin_0 26 rfl) (fun H locs w => ?_)
  have w := Wd.nm e_σ14 w
  refine lv_iconst (v := (0 : Int32)) G.hx G.hb (dcs_get dec_X10_begin_0 27 rfl) (by decide) ?_
  refine lv_istore_n (lv' := [(2, .int (0 : Int32)), (0, .ref (ad a0)), (1, .ref (ad a1))]) G.hx G.hb (dcs_get dec_X10_begin_0 28 rfl) rfl hl (by decide) rfl (fun ls hl => ?_)
  exact B_X10_begin_47 a0 a1 (0 : Int32) σ14 G hm ok_a0 ok_a1 hf  w (lv_sub hl [1, 2, 0] rfl)
end
set_option maxRecDepth 100000 in
set_option maxHeartbeats 4000000 in
theorem C_X10_begin {l : Launch} {D : va_G} {ay : Nat → ClassId} {ad : Nat → Nat} (hi : hInj NC ad) (a0 : Nat) (a1 : Nat) (σ : hSt) {σ0 : hSt} (hf : F_X10_begin a0 a1 σ = some σ0) (ok_a0 : okr kC NC 10 a0 = true) (ok_a1 : okr kC NC 7 a1 = true) : hM l D ay kC NC ad yX10_begin cX10_begin 3 (none) (rmK 2 44) [.ref (ad a0), .ref (ad a1)] σ (cV D ay kC NC ad σ0) := by
  refine hM_in (by decide) hi (Nat.le_of_ble_eq_true rfl) ?_
  intro p e s m below meth c G hm w ls hl
  exact B_X10_begin_0 a0 a1 σ G hm ok_a0 ok_a1 hf w (lv_sub hl [0, 1] rfl)

/-! HillDrums.World.clashing()I -/
def DL_X10_clashing_0 : List (Nat × Instr × Nat) := [(0, .aload_n 0, 1), (1, .getfield 27, 3), (4, .aload_n 0, 1), (5, .getfield 30, 3), (8, .iand, 1), (9, .ireturn, 1)]
set_option maxRecDepth 100000 in
theorem dec_X10_clashing_0 : dcs cX10_clashing DL_X10_clashing_0 = true := by decide +kernel
theorem lb_X10_clashing : lkB yX10_clashing cX10_clashing 1 ((some .int)) 0 := ⟨q_732, q_8, ⟨by decide, by decide⟩, by decide +kernel⟩
theorem lv_X10_clashing : lkV yX10_clashing := ⟨q_731, qs_39⟩
def F_X10_clashing (a0 : Nat) (σ : hSt) : Option (Int32) :=
some ((σ.1 a0 5) &&& (σ.1 a0 6))
section
variable {p : Program} {l : Launch} {e : Env} {s : State} {m : MethodId} {args : Array Value} {below : List Frame} {meth : Method} {c : Code} {D : va_G} {ay : Nat → ClassId} {ad : Nat → Nat}
set_option maxRecDepth 100000 in
set_option maxHeartbeats 4000000 in
theorem B_X10_clashing_0 {H : Heap} {locs : List Loc} {ls : Array Slot} {r0 : Int32} (a0 : Nat) (σ : hSt) (G : Gx p m c cX10_clashing 1 s args RX10 D ay NC ad (aN NC ad)) (hm : meth.sig.returnType = (some .int) ∧ meth.locks = false) (ok_a0 : okr kC NC 10 a0 = true) (hf : F_X10_clashing a0 σ = some r0)  (w : Wd D ay kC NC ad (aN NC ad) s σ H locs) (hl : lv_has ls 1 [(0, .ref (ad a0))]) : W p l e (rmK 0 0) s m args below meth c H locs 0 0 (MQ below (cI D ay kC NC ad r0 σ) args s 0 0 (aN NC ad)) (F0 m 0 ls []) := by
  have k_a0 := okr_in ok_a0
  unfold F_X10_clashing at hf
  refine lv_aload_n G.hx G.hb (dcs_get dec_X10_clashing_0 0 rfl) rfl (lv_at hl 0 rfl) ?_
  refine r_geti (k := 5) cls10 fi_10_5.1 fi_10_5.2 q_244 G w k_a0.1 k_a0.2 (dcs_get dec_X10_clashing_0 1 rfl) ?_
  refine lv_aload_n G.hx G.hb (dcs_get dec_X10_clashing_0 2 rfl) rfl (lv_at hl 0 rfl) ?_
  refine r_geti (k := 6) cls10 fi_10_6.1 fi_10_6.2 q_245 G w k_a0.1 k_a0.2 (dcs_get dec_X10_clashing_0 3 rfl) ?_
  refine lv_iand G.hx G.hb (dcs_get dec_X10_clashing_0 4 rfl) ?_
  have e9 := Option.some.inj hf
  exact r_iret G w hm e9 rfl (dcs_get dec_X10_clashing_0 5 rfl)
end
set_option maxRecDepth 100000 in
set_option maxHeartbeats 4000000 in
theorem C_X10_clashing {l : Launch} {D : va_G} {ay : Nat → ClassId} {ad : Nat → Nat} (hi : hInj NC ad) (a0 : Nat) (σ : hSt) {r0 : Int32} (hf : F_X10_clashing a0 σ = some r0) (ok_a0 : okr kC NC 10 a0 = true) : hM l D ay kC NC ad yX10_clashing cX10_clashing 1 ((some .int)) (rmK 0 0) [.ref (ad a0)] σ (cI D ay kC NC ad r0 σ) := by
  refine hM_in (by decide) hi (Nat.le_of_ble_eq_true rfl) ?_
  intro p e s m below meth c G hm w ls hl
  exact B_X10_clashing_0 a0 σ G hm ok_a0 hf w (lv_sub hl [0] rfl)

/-! HillDrums.World.passNight(LHillDrums$Text;I)V -/
def DL_X10_passNight_0 : List (Nat × Instr × Nat) := [(0, .iconst 0, 1), (1, .istore_n 3, 1), (2, .iload_n 3, 1), (3, .aload_n 1, 1), (4, .getfield 108, 3), (7, .if_icmp .ge 92, 3), (10, .iload_n 3, 1), (11, .iconst 4, 1), (12, .if_icmp .ge 87, 3), (15, .aload_n 1, 1), (16, .getfield 111, 3), (19, .iload_n 3, 1), (20, .iaload, 1), (21, .istore 4, 2), (23, .aload_n 1, 1), (24, .getfield 114, 3), (27, .iload_n 3, 1), (28, .iaload, 1), (29, .istore 5, 2), (31, .aload_n 1, 1), (32, .getfield 117, 3), (35, .iload_n 3, 1), (36, .iaload, 1), (37, .istore 6, 2), (39, .iload 4, 2), (41, .iload_n 2, 1), (42, .if_icmp .eq 51, 3), (45, .iload 6, 2), (47, .ifCond .le 46, 3), (50, .aload_n 0, 1), (51, .getfield 9, 3), (54, .iload 6, 2), (56, .irem, 1), (57, .ifCond .ne 36, 3), (60, .aload_n 0, 1), (61, .iload 4, 2), (63, .iload 5, 2), (65, .invokevirtual 71, 3), (68, .ifCond .eq 25, 3), (71, .aload_n 0, 1)]
set_option maxRecDepth 100000 in
theorem dec_X10_passNight_0 : dcs cX10_passNight DL_X10_passNight_0 = true := by decide +kernel
def DL_X10_passNight_1 : List (Nat × Instr × Nat) := [(72, .iload 4, 2), (74, .iload 5, 2), (76, .iconst 0, 1), (77, .aload_n 1, 1), (78, .aload_n 0, 1), (79, .getfield 9, 3), (82, .invokevirtual 83, 3), (85, .iload 4, 2), (87, .invokestatic 97, 3), (90, .invokevirtual 76, 3), (93, .iinc 3 1, 3), (96, .goto (-94), 3), (99, .aload_n 0, 1), (100, .dup, 1), (101, .getfield 9, 3), (104, .iconst 1, 1), (105, .iadd, 1), (106, .putfield 9, 3), (109, .aload_n 0, 1), (110, .iconst 0, 1), (111, .putfield 33, 3), (114, .aload_n 0, 1), (115, .iconst 0, 1), (116, .putfield 21, 3), (119, .aload_n 0, 1), (120, .iconst 0, 1), (121, .putfield 24, 3), (124, .return_, 1)]
set_option maxRecDepth 100000 in
theorem dec_X10_passNight_1 : dcs cX10_passNight DL_X10_passNight_1 = true := by decide +kernel
theorem lb_X10_passNight : lkB yX10_passNight cX10_passNight 7 (none) 2 := ⟨q_801, q_8, ⟨by decide, by decide⟩, by decide +kernel⟩
theorem lv_X10_passNight : lkV yX10_passNight := ⟨q_800, qs_48⟩
def F_X10_passNight_93 (a0 : Nat) (a1 : Nat) (l2 : Int32) (l3 : Int32) (σ : hSt) : Option ((Int32 × hSt) ⊕ (hSt)) :=
cL (l3 + (1 : Int32)) fun v1 =>
some (.inl (v1, σ))
def F_X10_passNight_99 (a0 : Nat) (σ : hSt) : Option (hSt) :=
cL (uI σ a0 0 ((σ.1 a0 0) + (1 : Int32))) fun σ2 =>
cL (uI σ2 a0 7 (0 : Int32)) fun σ3 =>
cL (uI σ3 a0 3 (0 : Int32)) fun σ4 =>
cL (uI σ4 a0 4 (0 : Int32)) fun σ5 =>
some (σ5)
def F_X10_passNight_2b (a0 : Nat) (a1 : Nat) (l2 : Int32) (l3 : Int32) (σ : hSt) : Option ((Int32 × hSt) ⊕ (hSt)) :=
if (σ.1 a1 9) ≤ l3 then (
(F_X10_passNight_99 a0 σ).map (fun x => .inr (x))) else (
if (4 : Int32) ≤ l3 then (
(F_X10_passNight_99 a0 σ).map (fun x => .inr (x))) else (
cR (σ.2.2 a1 10) (okr kC NC 101) fun z6 =>
cG (inb l3 (kC z6).2) <|
cL (σ.1 z6 l3.toNatClampNeg) fun v8 =>
cR (σ.2.2 a1 11) (okr kC NC 101) fun z9 =>
cG (inb l3 (kC z9).2) <|
cL (σ.1 z9 l3.toNatClampNeg) fun v11 =>
cR (σ.2.2 a1 12) (okr kC NC 101) fun z12 =>
cG (inb l3 (kC z12).2) <|
cL (σ.1 z12 l3.toNatClampNeg) fun v14 =>
if v8 = l2 then (
F_X10_passNight_93 a0 a1 l2 l3 σ) else (
if v14 ≤ 0 then (
F_X10_passNight_93 a0 a1 l2 l3 σ) else (
cG (!decide (v14 = 0)) <|
if ((σ.1 a0 0) - (σ.1 a0 0) / v14 * v14) = 0 then (
(F_X10_knows a0 v8 v11 σ).bind fun v17 =>
if v17 = 0 then (
F_X10_passNight_93 a0 a1 l2 l3 σ) else (
cC (F_X7_heardOn a1 (σ.1 a0 0) σ) fun v19 σ20 =>
(F_X11_hearersOf v19 v8 σ20).bind fun v22 =>
(F_X10_sound a0 v8 v11 (0 : Int32) v22 σ20).bind fun σ24 =>
F_X10_passNight_93 a0 a1 l2 l3 σ24)) else (
F_X10_passNight_93 a0 a1 l2 l3 σ)))))
def S_X10_passNight_2 (a0 : Nat) (a1 : Nat) (l2 : Int32) (v : Int32 × hSt) : Option ((Int32 × hSt) ⊕ (hSt)) := F_X10_passNight_2b a0 a1 l2 v.1 v.2
def F_X10_passNight_2 (a0 : Nat) (a1 : Nat) (l2 : Int32) (l3 : Int32) (σ : hSt) : Option (hSt) := lp (S_X10_passNight_2 a0 a1 l2) fuel (l3, σ)
def F_X10_passNight (a0 : Nat) (a1 : Nat) (l2 : Int32) (σ : hSt) : Option (hSt) :=
F_X10_passNight_2 a0 a1 l2 (0 : Int32) σ
section
variable {p : Program} {l : Launch} {e : Env} {s : State} {m : MethodId} {args : Array Value} {below : List Frame} {meth : Method} {c : Code} {D : va_G} {ay : Nat → ClassId} {ad : Nat → Nat}
set_option maxRecDepth 100000 in
set_option maxHeartbeats 4000000 in
theorem B_X10_passNight_93 {H : Heap} {locs : List Loc} {ls : Array Slot} {σ0 : hSt} {o : (Int32 × hSt) ⊕ (hSt)} (a0 : Nat) (a1 : Nat) (l2 : Int32) (l3 : Int32) (σ : hSt) (G : Gx p m c cX10_passNight 7 s args RX10 D ay NC ad (aN NC ad)) (hm : meth.sig.returnType = none ∧ meth.locks = false) (ok_a0 : okr kC NC 10 a0 = true) (ok_a1 : okr kC NC 7 a1 = true) (hf : F_X10_passNight_93 a0 a1 l2 l3 σ = some o) (hb0 : ∀ (v : Int32 × hSt), o = .inl v → ∀ (H : Heap) (locs : List Loc) (ls : Array Slot), Wd D ay kC NC ad (aN NC ad) s v.2 H locs → lv_has ls 7 [(0, .ref (ad a0)), (1, .ref (ad a1)), (2, .int l2), (3, .int v.1)] → W p l e (rmK 4 95) s m args below meth c H locs 0 0 (MQ below (cV D ay kC NC ad σ0) args s 0 0 (aN NC ad)) (F0 m 2 ls [])) (hr : ∀ x, o = .inr (x) → x = σ0) (w : Wd D ay kC NC ad (aN NC ad) s σ H locs) (hl : lv_has ls 7 [(0, .ref (ad a0)), (1, .ref (ad a1)), (2, .int l2), (3, .int l3)]) : W p l e (rmK 4 95) s m args below meth c H locs 0 0 (MQ below (cV D ay kC NC ad σ0) args s 0 0 (aN NC ad)) (F0 m 93 ls []) := by
  have k_a0 := okr_in ok_a0
  have k_a1 := okr_in ok_a1
  unfold F_X10_passNight_93 at hf
  obtain ⟨v1, e_v1, hf⟩ := cL_some hf
  refine lv_iinc (v := v1) (lv' := [(3, .int v1), (0, .ref (ad a0)), (1, .ref (ad a1)), (2, .int l2)]) G.hx G.hb (dcs_get dec_X10_passNight_1 10 rfl) hl (k := 3) rfl (by rw [e_v1]; rfl) (by decide) rfl (fun ls hl => ?_)
  refine lv_goto (tgt := 2) G.hx G.hb (dcs_get dec_X10_passNight_1 11 rfl) (by decide) ?_
  exact hb0 _ (Option.some.inj hf).symm _ _ _ w (lv_sub hl [1, 2, 3, 0] rfl)
set_option maxRecDepth 100000 in
set_option maxHeartbeats 4000000 in
theorem B_X10_passNight_99 {H : Heap} {locs : List Loc} {ls : Array Slot} {σ0 : hSt} (a0 : Nat) (σ : hSt) (G : Gx p m c cX10_passNight 7 s args RX10 D ay NC ad (aN NC ad)) (hm : meth.sig.returnType = none ∧ meth.locks = false) (ok_a0 : okr kC NC 10 a0 = true) (hf : F_X10_passNight_99 a0 σ = some σ0)  (w : Wd D ay kC NC ad (aN NC ad) s σ H locs) (hl : lv_has ls 7 [(0, .ref (ad a0))]) : W p l e (rmK 4 95) s m args below meth c H locs 0 0 (MQ below (cV D ay kC NC ad σ0) args s 0 0 (aN NC ad)) (F0 m 99 ls []) := by
  have k_a0 := okr_in ok_a0
  unfold F_X10_passNight_99 at hf
  refine lv_aload_n G.hx G.hb (dcs_get dec_X10_passNight_1 12 rfl) rfl (lv_at hl 0 rfl) ?_
  refine lv_dup G.hx G.hb (dcs_get dec_X10_passNight_1 13 rfl) rfl ?_
  refine r_geti (k := 0) cls10 fi_10_0.1 fi_10_0.2 q_233 G w k_a0.1 k_a0.2 (dcs_get dec_X10_passNight_1 14 rfl) ?_
  refine lv_iconst (v := (1 : Int32)) G.hx G.hb (dcs_get dec_X10_passNight_1 15 rfl) (by decide) ?_
  refine lv_iadd G.hx G.hb (dcs_get dec_X10_passNight_1 16 rfl) ?_
  obtain ⟨σ2, e_σ2, hf⟩ := cL_some hf
  refine r_puti (k := 0) cls10 ct10 fi_10_0.1 fi_10_0.2 fp_10_0.1 fp_10_0.2 q_233 rfl rfl G w k_a0.1 k_a0.2 (dcs_get dec_X10_passNight_1 17 rfl) (fun H locs w => ?_)
  have w := Wd.nm e_σ2 w
  refine lv_aload_n G.hx G.hb (dcs_get dec_X10_passNight_1 18 rfl) rfl (lv_at hl 0 rfl) ?_
  refine lv_iconst (v := (0 : Int32)) G.hx G.hb (dcs_get dec_X10_passNight_1 19 rfl) (by decide) ?_
  obtain ⟨σ3, e_σ3, hf⟩ := cL_some hf
  refine r_puti (k := 7) cls10 ct10 fi_10_7.1 fi_10_7.2 fp_10_7.1 fp_10_7.2 q_246 rfl rfl G w k_a0.1 k_a0.2 (dcs_get dec_X10_passNight_1 20 rfl) (fun H locs w => ?_)
  have w := Wd.nm e_σ3 w
  refine lv_aload_n G.hx G.hb (dcs_get dec_X10_passNight_1 21 rfl) rfl (lv_at hl 0 rfl) ?_
  refine lv_iconst (v := (0 : Int32)) G.hx G.hb (dcs_get dec_X10_passNight_1 22 rfl) (by decide) ?_
  obtain ⟨σ4, e_σ4, hf⟩ := cL_some hf
  refine r_puti (k := 3) cls10 ct10 fi_10_3.1 fi_10_3.2 fp_10_3.1 fp_10_3.2 q_242 rfl rfl G w k_a0.1 k_a0.2 (dcs_get dec_X10_passNight_1 23 rfl) (fun H locs w => ?_)
  have w := Wd.nm e_σ4 w
  refine lv_aload_n G.hx G.hb (dcs_get dec_X10_passNight_1 24 rfl) rfl (lv_at hl 0 rfl) ?_
  refine lv_iconst (v := (0 : Int32)) G.hx G.hb (dcs_get dec_X10_passNight_1 25 rfl) (by decide) ?_
  obtain ⟨σ5, e_σ5, hf⟩ := cL_some hf
  refine r_puti (k := 4) cls10 ct10 fi_10_4.1 fi_10_4.2 fp_10_4.1 fp_10_4.2 q_243 rfl rfl G w k_a0.1 k_a0.2 (dcs_get dec_X10_passNight_1 26 rfl) (fun H locs w => ?_)
  have w := Wd.nm e_σ5 w
  have e9 := Option.some.inj hf
  exact r_vret G w hm e9 (dcs_get dec_X10_passNight_1 27 rfl)
set_option maxRecDepth 100000 in
set_option maxHeartbeats 4000000 in
theorem B_X10_passNight_2b {H : Heap} {locs : List Loc} {ls : Array Slot} {σ0 : hSt} {o : (Int32 × hSt) ⊕ (hSt)} (a0 : Nat) (a1 : Nat) (l2 : Int32) (l3 : Int32) (σ : hSt) (G : Gx p m c cX10_passNight 7 s args RX10 D ay NC ad (aN NC ad)) (hm : meth.sig.returnType = none ∧ meth.locks = false) (ok_a0 : okr kC NC 10 a0 = true) (ok_a1 : okr kC NC 7 a1 = true) (hf : F_X10_passNight_2b a0 a1 l2 l3 σ = some o) (hb0 : ∀ (v : Int32 × hSt), o = .inl v → ∀ (H : Heap) (locs : List Loc) (ls : Array Slot), Wd D ay kC NC ad (aN NC ad) s v.2 H locs → lv_has ls 7 [(0, .ref (ad a0)), (1, .ref (ad a1)), (2, .int l2), (3, .int v.1)] → W p l e (rmK 4 95) s m args below meth c H locs 0 0 (MQ below (cV D ay kC NC ad σ0) args s 0 0 (aN NC ad)) (F0 m 2 ls [])) (hr : ∀ x, o = .inr (x) → x = σ0) (w : Wd D ay kC NC ad (aN NC ad) s σ H locs) (hl : lv_has ls 7 [(0, .ref (ad a0)), (1, .ref (ad a1)), (2, .int l2), (3, .int l3)]) : W p l e (rmK 4 95) s m args below meth c H locs 0 0 (MQ below (cV D ay kC NC ad σ0) args s 0 0 (aN NC ad)) (F0 m 2 ls []) := by
  have k_a0 := okr_in ok_a0
  have k_a1 := okr_in ok_a1
  unfold F_X10_passNight_2b at hf
  refine lv_iload_n G.hx G.hb (dcs_get dec_X10_passNight_0 2 rfl) rfl (lv_at hl 3 rfl) ?_
  refine lv_aload_n G.hx G.hb (dcs_get dec_X10_passNight_0 3 rfl) rfl (lv_at hl 1 rfl) ?_
  refine r_getiN (k := 9) cls7 fi_7_9.1 fi_7_9.2 nf_123 G w k_a1.1 k_a1.2 (dcs_get dec_X10_passNight_0 4 rfl) ?_
  refine lv_icmp_ge (tgt := 99) G.hx G.hb (dcs_get dec_X10_passNight_0 5 rfl) (by decide) (fun hc => ?_) (fun hc => ?_)
  · rw [if_pos hc] at hf
    obtain ⟨x9, h9, e9⟩ := map_some_inv hf
    subst e9
    have e8 := hr _ rfl
    rw [e8] at h9
    exact B_X10_passNight_99 a0 σ G hm ok_a0 h9 w (lv_sub hl [0] rfl)
  · rw [if_neg hc] at hf
    refine lv_iload_n G.hx G.hb (dcs_get dec_X10_passNight_0 6 rfl) rfl (lv_at hl 3 rfl) ?_
    refine lv_iconst (v := (4 : Int32)) G.hx G.hb (dcs_get dec_X10_passNight_0 7 rfl) (by decide) ?_
    refine lv_icmp_ge (tgt := 99) G.hx G.hb (dcs_get dec_X10_passNight_0 8 rfl) (by decide) (fun hc => ?_) (fun hc => ?_)
    · rw [if_pos hc] at hf
      obtain ⟨x9, h9, e9⟩ := map_some_inv hf
      subst e9
      have e8 := hr _ rfl
      rw [e8] at h9
      exact B_X10_passNight_99 a0 σ G hm ok_a0 h9 w (lv_sub hl [0] rfl)
    · rw [if_neg hc] at hf
      refine lv_aload_n G.hx G.hb (dcs_get dec_X10_passNight_0 9 rfl) rfl (lv_at hl 1 rfl) ?_
      obtain ⟨z6, e_z6, ok_z6, hf⟩ := cR_some hf
      have k_z6 := okr_in ok_z6
      refine r_getrN (k := 10) cls7 fi_7_10.1 fi_7_10.2 nf_127 G w k_a1.1 k_a1.2 e_z6 (dcs_get dec_X10_passNight_0 10 rfl) ?_
      refine lv_iload_n G.hx G.hb (dcs_get dec_X10_passNight_0 11 rfl) rfl (lv_at hl 3 rfl) ?_
      obtain ⟨h7, hf⟩ := cG_some hf
      refine r_iald G w k_z6.1 k_z6.2 h7 (dcs_get dec_X10_passNight_0 12 rfl) ?_
      obtain ⟨v8, e_v8, hf⟩ := cL_some hf
      refine r_topi e_v8 ?_
      refine lv_istore (lv' := [(4, .int v8), (0, .ref (ad a0)), (1, .ref (ad a1)), (2, .int l2), (3, .int l3)]) G.hx G.hb (dcs_get dec_X10_passNight_0 13 rfl) hl (by decide) rfl (fun ls hl => ?_)
      refine lv_aload_n G.hx G.hb (dcs_get dec_X10_passNight_0 14 rfl) rfl (lv_at hl 2 rfl) ?_
      obtain ⟨z9, e_z9, ok_z9, hf⟩ := cR_some hf
      have k_z9 := okr_in ok_z9
      refine r_getrN (k := 11) cls7 fi_7_11.1 fi_7_11.2 nf_130 G w k_a1.1 k_a1.2 e_z9 (dcs_get dec_X10_passNight_0 15 rfl) ?_
      refine lv_iload_n G.hx G.hb (dcs_get dec_X10_passNight_0 16 rfl) rfl (lv_at hl 4 rfl) ?_
      obtain ⟨h10, hf⟩ := cG_some hf
      refine r_iald G w k_z9.1 k_z9.2 h10 (dcs_get dec_X10_passNight_0 17 rfl) ?_
      obtain ⟨v11, e_v11, hf⟩ := cL_some hf
      refine r_topi e_v11 ?_
      refine lv_istore (lv' := [(5, .int v11), (4, .int v8), (0, .ref (ad a0)), (1, .ref (ad a1)), (2, .int l2), (3, .int l3)]) G.hx G.hb (dcs_get dec_X10_passNight_0 18 rfl) hl (by decide) rfl (fun ls hl => ?_)
      refine lv_aload_n G.hx G.hb (dcs_get dec_X10_passNight_0 19 rfl) rfl (lv_at hl 3 rfl) ?_
      obtain ⟨z12, e_z12, ok_z12, hf⟩ := cR_some hf
      have k_z12 := okr_in ok_z12
      refine r_getrN (k := 12) cls7 fi_7_12.1 fi_7_12.2 nf_133 G w k_a1.1 k_a1.2 e_z12 (dcs_get dec_X10_passNight_0 20 rfl) ?_
      refine lv_iload_n G.hx G.hb (dcs_get dec_X10_passNight_0 21 rfl) rfl (lv_at hl 5 rfl) ?_
      obtain ⟨h13, hf⟩ := cG_some hf
      refine r_iald G w k_z12.1 k_z12.2 h13 (dcs_get dec_X10_passNight_0 22 rfl) ?_
      obtain ⟨v14, e_v14, hf⟩ := cL_some hf
      refine r_topi e_v14 ?_
      refine lv_istore (lv' := [(6, .int v14), (5, .int v11), (4, .int v8), (0, .ref (ad a0)), (1, .ref (ad a1)), (2, .int l2), (3, .int l3)]) G.hx G.hb (dcs_get dec_X10_passNight_0 23 rfl) hl (by decide) rfl (fun ls hl => ?_)
      refine lv_iload G.hx G.hb (dcs_get dec_X10_passNight_0 24 rfl) (lv_at hl 2 rfl) ?_
      refine lv_iload_n G.hx G.hb (dcs_get dec_X10_passNight_0 25 rfl) rfl (lv_at hl 5 rfl) ?_
      refine lv_icmp_eq (tgt := 93) G.hx G.hb (dcs_get dec_X10_passNight_0 26 rfl) (by decide) (fun hc => ?_) (fun hc => ?_)
      · rw [if_pos hc] at hf
        exact B_X10_passNight_93 a0 a1 l2 l3 σ G hm ok_a0 ok_a1 hf hb0 hr w (lv_sub hl [3, 4, 5, 6] rfl)
      · rw [if_neg hc] at hf
        refine lv_iload G.hx G.hb (dcs_get dec_X10_passNight_0 27 rfl) (lv_at hl 0 rfl) ?_
        refine lv_if_le (tgt := 93) G.hx G.hb (dcs_get dec_X10_passNight_0 28 rfl) (by decide) (fun hc => ?_) (fun hc => ?_)
        · rw [if_pos hc] at hf
          exact B_X10_passNight_93 a0 a1 l2 l3 σ G hm ok_a0 ok_a1 hf hb0 hr w (lv_sub hl [3, 4, 5, 6] rfl)
        · rw [if_neg hc] at hf
          refine lv_aload_n G.hx G.hb (dcs_get dec_X10_passNight_0 29 rfl) rfl (lv_at hl 3 rfl) ?_
          refine r_geti (k := 0) cls10 fi_10_0.1 fi_10_0.2 q_233 G w k_a0.1 k_a0.2 (dcs_get dec_X10_passNight_0 30 rfl) ?_
          refine lv_iload G.hx G.hb (dcs_get dec_X10_passNight_0 31 rfl) (lv_at hl 0 rfl) ?_
          obtain ⟨h15, hf⟩ := cG_some hf
          refine lv_irem G.hx G.hb (dcs_get dec_X10_passNight_0 32 rfl) (by simpa using h15) ?_
          refine lv_if_ne (tgt := 93) G.hx G.hb (dcs_get dec_X10_passNight_0 33 rfl) (by decide) (fun hc => ?_) (fun hc => ?_)
          · rw [if_neg hc] at hf
            exact B_X10_passNight_93 a0 a1 l2 l3 σ G hm ok_a0 ok_a1 hf hb0 hr w (lv_sub hl [3, 4, 5, 6] rfl)
          · rw [if_pos hc] at hf
            refine lv_aload_n G.hx G.hb (dcs_get dec_X10_passNight_0 34 rfl) rfl (lv_at hl 3 rfl) ?_
            refine lv_iload G.hx G.hb (dcs_get dec_X10_passNight_0 35 rfl) (lv_at hl 2 rfl) ?_
            refine lv_iload G.hx G.hb (dcs_get dec_X10_passNight_0 36 rfl) (lv_at hl 1 rfl) ?_
            obtain ⟨v17, h16, hf⟩ := cB_some hf
            refine a_i (k_V (As := [.int v8, .int v11]) (rest := []) cls10 lb_X10_knows lv_X10_knows q_745 (C_X10_knows G.2.2.1 a0 v8 v11 σ h16 ok_a0) ⟨(Nat.le_of_ble_eq_true rfl), (Nat.le_of_ble_eq_true rfl)⟩ G w k_a0.1 k_a0.2 rfl rfl hl.1 (Nat.le_of_ble_eq_true rfl) (dcs_get dec_X10_passNight_0 37 rfl) ⟨Nat.le_refl _, Nat.le_refl _⟩) G w (fun H locs w => ?_)
            refine lv_if_eq (tgt := 93) G.hx G.hb (dcs_get dec_X10_passNight_0 38 rfl) (by decide) (fun hc => ?_) (fun hc => ?_)
            · rw [if_pos hc] at hf
              exact B_X10_passNight_93 a0 a1 l2 l3 σ G hm ok_a0 ok_a1 hf hb0 hr w (lv_sub hl [3, 4, 5, 6] rfl)
            · rw [if_neg hc] at hf
              refine lv_aload_n G.hx G.hb (dcs_get dec_X10_passNight_0 39 rfl) rfl (lv_at hl 3 rfl) ?_
              refine lv_iload G.hx G.hb (dcs_get dec_X10_passNight_1 0 rfl) (lv_at hl 2 rfl) ?_
              refine lv_iload G.hx G.hb (dcs_get dec_X10_passNight_1 1 rfl) (lv_at hl 1 rfl) ?_
              refine lv_iconst (v := (0 : Int32)) G.hx G.hb (dcs_get dec_X10_passNight_1 2 rfl) (by decide) ?_
              refine lv_aload_n G.hx G.hb (dcs_get dec_X10_passNight_1 3 rfl) rfl (lv_at hl 4 rfl) ?_
              refine lv_aload_n G.hx G.hb (dcs_get dec_X10_passNight_1 4 rfl) rfl (lv_at hl 3 rfl) ?_
              refine r_geti (k := 0) cls10 fi_10_0.1 fi_10_0.2 q_233 G w k_a0.1 k_a0.2 (dcs_get dec_X10_passNight_1 5 rfl) ?_
              obtain ⟨v19, σ20, h18, hf⟩ := cC_some hf
              refine a_l (k_VN (As := [.int (σ.1 a0 0)]) (rest := [.int (0 : Int32), .int v11, .int v8, .ref (ad a0)]) cls7 lb_X7_heardOn lv_X7_heardOn nm_802 (C_X7_heardOn G.2.2.1 a1 (σ.1 a0 0) σ h18 ok_a1) ⟨(Nat.le_of_ble_eq_true rfl), (Nat.le_of_ble_eq_true rfl)⟩ G w k_a1.1 k_a1.2 rfl rfl hl.1 (Nat.le_of_ble_eq_true rfl) (dcs_get dec_X10_passNight_1 6 rfl) ⟨Nat.le_refl _, Nat.le_refl _⟩) G w (fun H locs w => ?_)
              refine lv_iload G.hx G.hb (dcs_get dec_X10_passNight_1 7 rfl) (lv_at hl 2 rfl) ?_
              obtain ⟨v22, h21, hf⟩ := cB_some hf
              refine a_i (k_SN (As := [.long v19, .int v8]) (rest := [.int (0 : Int32), .int v11, .int v8, .ref (ad a0)]) lb_X11_hearersOf q_757 nm_803 (C_X11_hearersOf G.2.2.1 v19 v8 σ20 h21 ) ⟨(Nat.le_of_ble_eq_true rfl), (Nat.le_of_ble_eq_true rfl)⟩ G w rfl rfl hl.1 (Nat.le_of_ble_eq_true rfl) (dcs_get dec_X10_passNight_1 8 rfl) ⟨Nat.le_refl _, Nat.le_refl _⟩) G w (fun H locs w => ?_)
              obtain ⟨σ24, h23, hf⟩ := cB_some hf
              refine a_v (k_V (As := [.int v8, .int v11, .int (0 : Int32), .int v22]) (rest := []) cls10 lb_X10_sound lv_X10_sound q_775 (C_X10_sound G.2.2.1 a0 v8 v11 (0 : Int32) v22 σ20 h23 ok_a0) ⟨(Nat.le_of_ble_eq_true rfl), (Nat.le_of_ble_eq_true rfl)⟩ G w k_a0.1 k_a0.2 rfl rfl hl.1 (Nat.le_of_ble_eq_true rfl) (dcs_get dec_X10_passNight_1 9 rfl) ⟨Nat.le_refl _, Nat.le_refl _⟩) G w (fun H locs w => ?_)
              exact B_X10_passNight_93 a0 a1 l2 l3 σ24 G hm ok_a0 ok_a1 hf hb0 hr w (lv_sub hl [3, 4, 5, 6] rfl)
set_option maxRecDepth 100000 in
set_option maxHeartbeats 4000000 in
theorem H_X10_passNight_2 {σ0 : hSt} (a0 : Nat) (a1 : Nat) (l2 : Int32) (G : Gx p m c cX10_passNight 7 s args RX10 D ay NC ad (aN NC ad)) (hm : meth.sig.returnType = none ∧ meth.locks = false) (ok_a0 : okr kC NC 10 a0 = true) (ok_a1 : okr kC NC 7 a1 = true)  : ∀ (k : Nat) (v : Int32 × hSt), lp (S_X10_passNight_2 a0 a1 l2) k v = some σ0 → ∀ (H : Heap) (locs : List Loc) (ls : Array Slot), Wd D ay kC NC ad (aN NC ad) s v.2 H locs → lv_has ls 7 [(0, .ref (ad a0)), (1, .ref (ad a1)), (2, .int l2), (3, .int v.1)] → W p l e (rmK 4 95) s m args below meth c H locs 0 0 (MQ below (cV D ay kC NC ad σ0) args s 0 0 (aN NC ad)) (F0 m 2 ls []) := by
  intro k
  induction k with
  | zero => intro v hf; cases hf
  | succ k ih =>
    intro v hf H locs ls w hl
    obtain ⟨o1, h1, h2, h3⟩ := lp_some hf
    exact B_X10_passNight_2b a0 a1 l2 v.1 v.2 G hm ok_a0 ok_a1 h1  (fun v' e => ih v' (h2 v' e)) (fun x e => h3 x e) w hl
set_option maxRecDepth 100000 in
set_option maxHeartbeats 4000000 in
theorem B_X10_passNight_2 {H : Heap} {locs : List Loc} {ls : Array Slot} {σ0 : hSt} (a0 : Nat) (a1 : Nat) (l2 : Int32) (l3 : Int32) (σ : hSt) (G : Gx p m c cX10_passNight 7 s args RX10 D ay NC ad (aN NC ad)) (hm : meth.sig.returnType = none ∧ meth.locks = false) (ok_a0 : okr kC NC 10 a0 = true) (ok_a1 : okr kC NC 7 a1 = true) (hf : F_X10_passNight_2 a0 a1 l2 l3 σ = some σ0)  (w : Wd D ay kC NC ad (aN NC ad) s σ H locs) (hl : lv_has ls 7 [(0, .ref (ad a0)), (1, .ref (ad a1)), (2, .int l2), (3, .int l3)]) : W p l e (rmK 4 95) s m args below meth c H locs 0 0 (MQ below (cV D ay kC NC ad σ0) args s 0 0 (aN NC ad)) (F0 m 2 ls []) := by
  unfold F_X10_passNight_2 at hf
  exact H_X10_passNight_2 a0 a1 l2  G hm ok_a0 ok_a1  fuel (l3, σ) hf _ _ _ w hl
set_option maxRecDepth 100000 in
set_option maxHeartbeats 4000000 in
theorem B_X10_passNight_0 {H : Heap} {locs : List Loc} {ls : Array Slot} {σ0 : hSt} (a0 : Nat) (a1 : Nat) (l2 : Int32) (σ : hSt) (G : Gx p m c cX10_passNight 7 s args RX10 D ay NC ad (aN NC ad)) (hm : meth.sig.returnType = none ∧ meth.locks = false) (ok_a0 : okr kC NC 10 a0 = true) (ok_a1 : okr kC NC 7 a1 = true) (hf : F_X10_passNight a0 a1 l2 σ = some σ0)  (w : Wd D ay kC NC ad (aN NC ad) s σ H locs) (hl : lv_has ls 7 [(0, .ref (ad a0)), (1, .ref (ad a1)), (2, .int l2)]) : W p l e (rmK 4 95) s m args below meth c H locs 0 0 (MQ below (cV D ay kC NC ad σ0) args s 0 0 (aN NC ad)) (F0 m 0 ls []) := by
  have k_a0 := okr_in ok_a0
  have k_a1 := okr_in ok_a1
  unfold F_X10_passNight at hf
  refine lv_iconst (v := (0 : Int32)) G.hx G.hb (dcs_get dec_X10_passNight_0 0 rfl) (by decide) ?_
  refine lv_istore_n (lv' := [(3, .int (0 : Int32)), (0, .ref (ad a0)), (1, .ref (ad a1)), (2, .int l2)]) G.hx G.hb (dcs_get dec_X10_passNight_0 1 rfl) rfl hl (by decide) rfl (fun ls hl => ?_)
  exact B_X10_passNight_2 a0 a1 l2 (0 : Int32) σ G hm ok_a0 ok_a1 hf  w (lv_sub hl [1, 2, 3, 0] rfl)
end
set_option maxRecDepth 100000 in
set_option maxHeartbeats 4000000 in
theorem C_X10_passNight {l : Launch} {D : va_G} {ay : Nat → ClassId} {ad : Nat → Nat} (hi : hInj NC ad) (a0 : Nat) (a1 : Nat) (l2 : Int32) (σ : hSt) {σ0 : hSt} (hf : F_X10_passNight a0 a1 l2 σ = some σ0) (ok_a0 : okr kC NC 10 a0 = true) (ok_a1 : okr kC NC 7 a1 = true) : hM l D ay kC NC ad yX10_passNight cX10_passNight 7 (none) (rmK 4 95) [.ref (ad a0), .ref (ad a1), .int l2] σ (cV D ay kC NC ad σ0) := by
  refine hM_in (by decide) hi (Nat.le_of_ble_eq_true rfl) ?_
  intro p e s m below meth c G hm w ls hl
  exact B_X10_passNight_0 a0 a1 l2 σ G hm ok_a0 ok_a1 hf w (lv_sub hl [0, 1, 2] rfl)

/-! HillDrums.World.passDay(LHillDrums$Text;II)V -/
def DL_X10_passDay_0 : List (Nat × Instr × Nat) := [(0, .aload_n 1, 1), (1, .aload_n 0, 1), (2, .getfield 9, 3), (5, .invokevirtual 83, 3), (8, .lstore 4, 2), (10, .iconst 0, 1), (11, .istore 6, 2), (13, .iload 6, 2), (15, .aload_n 1, 1), (16, .getfield 87, 3), (19, .if_icmp .ge 76, 3), (22, .iload 6, 2), (24, .iload_n 3, 1), (25, .if_icmp .ne 6, 3), (28, .goto 61, 3), (31, .iconst 0, 1), (32, .istore 7, 2), (34, .iload 7, 2), (36, .aload_n 1, 1), (37, .getfield 49, 3), (40, .if_icmp .ge 49, 3), (43, .aload_n 0, 1), (44, .iload 6, 2), (46, .iload 7, 2), (48, .invokevirtual 90, 3), (51, .ifCond .eq 32, 3), (54, .aload_n 0, 1), (55, .iload_n 2, 1), (56, .iload 6, 2), (58, .iload 7, 2), (60, .iconst 0, 1), (61, .invokevirtual 93, 3), (64, .ifCond .ne 19, 3), (67, .aload_n 0, 1), (68, .iload 6, 2), (70, .iload 7, 2), (72, .iconst 0, 1), (73, .lload 4, 2), (75, .iload 6, 2), (77, .invokestatic 97, 3)]
set_option maxRecDepth 100000 in
theorem dec_X10_passDay_0 : dcs cX10_passDay DL_X10_passDay_0 = true := by decide +kernel
def DL_X10_passDay_1 : List (Nat × Instr × Nat) := [(80, .invokevirtual 101, 3), (83, .iinc 7 1, 3), (86, .goto (-52), 3), (89, .iinc 6 1, 3), (92, .goto (-79), 3), (95, .aload_n 0, 1), (96, .aload_n 1, 1), (97, .iload_n 3, 1), (98, .invokevirtual 104, 3), (101, .return_, 1)]
set_option maxRecDepth 100000 in
theorem dec_X10_passDay_1 : dcs cX10_passDay DL_X10_passDay_1 = true := by decide +kernel
theorem lb_X10_passDay : lkB yX10_passDay cX10_passDay 8 (none) 3 := ⟨q_811, q_8, ⟨by decide, by decide⟩, by decide +kernel⟩
theorem lv_X10_passDay : lkV yX10_passDay := ⟨q_810, qs_49⟩
def F_X10_passDay_89 (a0 : Nat) (a1 : Nat) (l2 : Int32) (l3 : Int32) (l4 : Int64) (l6 : Int32) (σ : hSt) : Option ((Int32 × hSt) ⊕ (hSt)) :=
cL (l6 + (1 : Int32)) fun v1 =>
some (.inl (v1, σ))
def F_X10_passDay_83 (a0 : Nat) (a1 : Nat) (l2 : Int32) (l3 : Int32) (l4 : Int64) (l6 : Int32) (l7 : Int32) (σ : hSt) : Option ((Int32 × hSt) ⊕ ((Int32 × hSt) ⊕ (hSt))) :=
cL (l7 + (1 : Int32)) fun v2 =>
some (.inl (v2, σ))
def F_X10_passDay_34b (a0 : Nat) (a1 : Nat) (l2 : Int32) (l3 : Int32) (l4 : Int64) (l6 : Int32) (l7 : Int32) (σ : hSt) : Option ((Int32 × hSt) ⊕ ((Int32 × hSt) ⊕ (hSt))) :=
if (σ.1 a1 3) ≤ l7 then (
(F_X10_passDay_89 a0 a1 l2 l3 l4 l6 σ).map (fun x => .inr (x))) else (
(F_X10_isAble a0 l6 l7 σ).bind fun v4 =>
if v4 = 0 then (
F_X10_passDay_83 a0 a1 l2 l3 l4 l6 l7 σ) else (
(F_X10_isAnswer a0 l2 l6 l7 (0 : Int32) σ).bind fun v6 =>
if v6 = 0 then (
(F_X11_hearersOf l4 l6 σ).bind fun v8 =>
(F_X10_drumByDay a0 l6 l7 (0 : Int32) v8 σ).bind fun σ10 =>
F_X10_passDay_83 a0 a1 l2 l3 l4 l6 l7 σ10) else (
F_X10_passDay_83 a0 a1 l2 l3 l4 l6 l7 σ)))
def S_X10_passDay_34 (a0 : Nat) (a1 : Nat) (l2 : Int32) (l3 : Int32) (l4 : Int64) (l6 : Int32) (v : Int32 × hSt) : Option ((Int32 × hSt) ⊕ ((Int32 × hSt) ⊕ (hSt))) := F_X10_passDay_34b a0 a1 l2 l3 l4 l6 v.1 v.2
def F_X10_passDay_34 (a0 : Nat) (a1 : Nat) (l2 : Int32) (l3 : Int32) (l4 : Int64) (l6 : Int32) (l7 : Int32) (σ : hSt) : Option ((Int32 × hSt) ⊕ (hSt)) := lp (S_X10_passDay_34 a0 a1 l2 l3 l4 l6) fuel (l7, σ)
def F_X10_passDay_13b (a0 : Nat) (a1 : Nat) (l2 : Int32) (l3 : Int32) (l4 : Int64) (l6 : Int32) (σ : hSt) : Option ((Int32 × hSt) ⊕ (hSt)) :=
if (σ.1 a1 0) ≤ l6 then (
(F_X10_passNight a0 a1 l3 σ).bind fun σ12 =>
some (.inr (σ12))) else (
if l6 = l3 then (
F_X10_passDay_89 a0 a1 l2 l3 l4 l6 σ) else (
F_X10_passDay_34 a0 a1 l2 l3 l4 l6 (0 : Int32) σ))
def S_X10_passDay_13 (a0 : Nat) (a1 : Nat) (l2 : Int32) (l3 : Int32) (l4 : Int64) (v : Int32 × hSt) : Option ((Int32 × hSt) ⊕ (hSt)) := F_X10_passDay_13b a0 a1 l2 l3 l4 v.1 v.2
def F_X10_passDay_13 (a0 : Nat) (a1 : Nat) (l2 : Int32) (l3 : Int32) (l4 : Int64) (l6 : Int32) (σ : hSt) : Option (hSt) := lp (S_X10_passDay_13 a0 a1 l2 l3 l4) fuel (l6, σ)
def F_X10_passDay (a0 : Nat) (a1 : Nat) (l2 : Int32) (l3 : Int32) (σ : hSt) : Option (hSt) :=
cC (F_X7_heardOn a1 (σ.1 a0 0) σ) fun v14 σ15 =>
F_X10_passDay_13 a0 a1 l2 l3 v14 (0 : Int32) σ15
section
variable {p : Program} {l : Launch} {e : Env} {s : State} {m : MethodId} {args : Array Value} {below : List Frame} {meth : Method} {c : Code} {D : va_G} {ay : Nat → ClassId} {ad : Nat → Nat}
set_option maxRecDepth 100000 in
set_option maxHeartbeats 4000000 in
theorem B_X10_passDay_89 {H : Heap} {locs : List Loc} {ls : Array Slot} {σ0 : hSt} {o : (Int32 × hSt) ⊕ (hSt)} (a0 : Nat) (a1 : Nat) (l2 : Int32) (l3 : Int32) (l4 : Int64) (l6 : Int32) (σ : hSt) (G : Gx p m c cX10_passDay 8 s args RX10 D ay NC ad (aN NC ad)) (hm : meth.sig.returnType = none ∧ meth.locks = false) (ok_a0 : okr kC NC 10 a0 = true) (ok_a1 : okr kC NC 7 a1 = true) (hf : F_X10_passDay_89 a0 a1 l2 l3 l4 l6 σ = some o) (hb0 : ∀ (v : Int32 × hSt), o = .inl v → ∀ (H : Heap) (locs : List Loc) (ls : Array Slot), Wd D ay kC NC ad (aN NC ad) s v.2 H locs → lv_has ls 8 [(0, .ref (ad a0)), (1, .ref (ad a1)), (2, .int l2), (3, .int l3), (4, .long l4), (6, .int v.1)] → W p l e (rmK 5 121) s m args below meth c H locs 0 0 (MQ below (cV D ay kC NC ad σ0) args s 0 0 (aN NC ad)) (F0 m 13 ls [])) (hr : ∀ x, o = .inr (x) → x = σ0) (w : Wd D ay kC NC ad (aN NC ad) s σ H locs) (hl : lv_has ls 8 [(0, .ref (ad a0)), (1, .ref (ad a1)), (2, .int l2), (3, .int l3), (4, .long l4), (6, .int l6)]) : W p l e (rmK 5 121) s m args below meth c H locs 0 0 (MQ below (cV D ay kC NC ad σ0) args s 0 0 (aN NC ad)) (F0 m 89 ls []) := by
  have k_a0 := okr_in ok_a0
  have k_a1 := okr_in ok_a1
  unfold F_X10_passDay_89 at hf
  obtain ⟨v1, e_v1, hf⟩ := cL_some hf
  refine lv_iinc (v := v1) (lv' := [(6, .int v1), (0, .ref (ad a0)), (1, .ref (ad a1)), (2, .int l2), (3, .int l3), (4, .long l4)]) G.hx G.hb (dcs_get dec_X10_passDay_1 3 rfl) hl (k := 5) rfl (by rw [e_v1]; rfl) (by decide) rfl (fun ls hl => ?_)
  refine lv_goto (tgt := 13) G.hx G.hb (dcs_get dec_X10_passDay_1 4 rfl) (by decide) ?_
  exact hb0 _ (Option.some.inj hf).symm _ _ _ w (lv_sub hl [1, 2, 3, 4, 5, 0] rfl)
set_option maxRecDepth 100000 in
set_option maxHeartbeats 4000000 in
theorem B_X10_passDay_83 {H : Heap} {locs : List Loc} {ls : Array Slot} {σ0 : hSt} {o : (Int32 × hSt) ⊕ ((Int32 × hSt) ⊕ (hSt))} (a0 : Nat) (a1 : Nat) (l2 : Int32) (l3 : Int32) (l4 : Int64) (l6 : Int32) (l7 : Int32) (σ : hSt) (G : Gx p m c cX10_passDay 8 s args RX10 D ay NC ad (aN NC ad)) (hm : meth.sig.returnType = none ∧ meth.locks = false) (ok_a0 : okr kC NC 10 a0 = true) (ok_a1 : okr kC NC 7 a1 = true) (hf : F_X10_passDay_83 a0 a1 l2 l3 l4 l6 l7 σ = some o) (hb0 : ∀ (v : Int32 × hSt), o = .inr (.inl v) → ∀ (H : Heap) (locs : List Loc) (ls : Array Slot), Wd D ay kC NC ad (aN NC ad) s v.2 H locs → lv_has ls 8 [(0, .ref (ad a0)), (1, .ref (ad a1)), (2, .int l2), (3, .int l3), (4, .long l4), (6, .int v.1)] → W p l e (rmK 5 121) s m args below meth c H locs 0 0 (MQ below (cV D ay kC NC ad σ0) args s 0 0 (aN NC ad)) (F0 m 13 ls [])) (hb1 : ∀ (v : Int32 × hSt), o = .inl v → ∀ (H : Heap) (locs : List Loc) (ls : Array Slot), Wd D ay kC NC ad (aN NC ad) s v.2 H locs → lv_has ls 8 [(0, .ref (ad a0)), (1, .ref (ad a1)), (2, .int l2), (3, .int l3), (4, .long l4), (6, .int l6), (7, .int v.1)] → W p l e (rmK 5 121) s m args below meth c H locs 0 0 (MQ below (cV D ay kC NC ad σ0) args s 0 0 (aN NC ad)) (F0 m 34 ls [])) (hr : ∀ x, o = .inr (.inr (x)) → x = σ0) (w : Wd D ay kC NC ad (aN NC ad) s σ H locs) (hl : lv_has ls 8 [(0, .ref (ad a0)), (1, .ref (ad a1)), (2, .int l2), (3, .int l3), (4, .long l4), (6, .int l6), (7, .int l7)]) : W p l e (rmK 5 121) s m args below meth c H locs 0 0 (MQ below (cV D ay kC NC ad σ0) args s 0 0 (aN NC ad)) (F0 m 83 ls []) := by
  have k_a0 := okr_in ok_a0
  have k_a1 := okr_in ok_a1
  unfold F_X10_passDay_83 at hf
  obtain ⟨v2, e_v2, hf⟩ := cL_some hf
  refine lv_iinc (v := v2) (lv' := [(7, .int v2), (0, .ref (ad a0)), (1, .ref (ad a1)), (2, .int l2), (3, .int l3), (4, .long l4), (6, .int l6)]) G.hx G.hb (dcs_get dec_X10_passDay_1 1 rfl) hl (k := 6) rfl (by rw [e_v2]; rfl) (by decide) rfl (fun ls hl => ?_)
  refine lv_goto (tgt := 34) G.hx G.hb (dcs_get dec_X10_passDay_1 2 rfl) (by decide) ?_
  exact hb1 _ (Option.some.inj hf).symm _ _ _ w (lv_sub hl [1, 2, 3, 4, 5, 6, 0] rfl)
set_option maxRecDepth 100000 in
set_option maxHeartbeats 4000000 in
theorem B_X10_passDay_34b {H : Heap} {locs : List Loc} {ls : Array Slot} {σ0 : hSt} {o : (Int32 × hSt) ⊕ ((Int32 × hSt) ⊕ (hSt))} (a0 : Nat) (a1 : Nat) (l2 : Int32) (l3 : Int32) (l4 : Int64) (l6 : Int32) (l7 : Int32) (σ : hSt) (G : Gx p m c cX10_passDay 8 s args RX10 D ay NC ad (aN NC ad)) (hm : meth.sig.returnType = none ∧ meth.locks = false) (ok_a0 : okr kC NC 10 a0 = true) (ok_a1 : okr kC NC 7 a1 = true) (hf : F_X10_passDay_34b a0 a1 l2 l3 l4 l6 l7 σ = some o) (hb0 : ∀ (v : Int32 × hSt), o = .inr (.inl v) → ∀ (H : Heap) (locs : List Loc) (ls : Array Slot), Wd D ay kC NC ad (aN NC ad) s v.2 H locs → lv_has ls 8 [(0, .ref (ad a0)), (1, .ref (ad a1)), (2, .int l2), (3, .int l3), (4, .long l4), (6, .int v.1)] → W p l e (rmK 5 121) s m args below meth c H locs 0 0 (MQ below (cV D ay kC NC ad σ0) args s 0 0 (aN NC ad)) (F0 m 13 ls [])) (hb1 : ∀ (v : Int32 × hSt), o = .inl v → ∀ (H : Heap) (locs : List Loc) (ls : Array Slot), Wd D ay kC NC ad (aN NC ad) s v.2 H locs → lv_has ls 8 [(0, .ref (ad a0)), (1, .ref (ad a1)), (2, .int l2), (3, .int l3), (4, .long l4), (6, .int l6), (7, .int v.1)] → W p l e (rmK 5 121) s m args below meth c H locs 0 0 (MQ below (cV D ay kC NC ad σ0) args s 0 0 (aN NC ad)) (F0 m 34 ls [])) (hr : ∀ x, o = .inr (.inr (x)) → x = σ0) (w : Wd D ay kC NC ad (aN NC ad) s σ H locs) (hl : lv_has ls 8 [(0, .ref (ad a0)), (1, .ref (ad a1)), (2, .int l2), (3, .int l3), (4, .long l4), (6, .int l6), (7, .int l7)]) : W p l e (rmK 5 121) s m args below meth c H locs 0 0 (MQ below (cV D ay kC NC ad σ0) args s 0 0 (aN NC ad)) (F0 m 34 ls []) := by
  have k_a0 := okr_in ok_a0
  have k_a1 := okr_in ok_a1
  unfold F_X10_passDay_34b at hf
  refine lv_iload G.hx G.hb (dcs_get dec_X10_passDay_0 17 rfl) (lv_at hl 6 rfl) ?_
  refine lv_aload_n G.hx G.hb (dcs_get dec_X10_passDay_0 18 rfl) rfl (lv_at hl 1 rfl) ?_
  refine r_getiN (k := 3) cls7 fi_7_3.1 fi_7_3.2 nf_102 G w k_a1.1 k_a1.2 (dcs_get dec_X10_passDay_0 19 rfl) ?_
  refine lv_icmp_ge (tgt := 89) G.hx G.hb (dcs_get dec_X10_passDay_0 20 rfl) (by decide) (fun hc => ?_) (fun hc => ?_)
  · rw [if_pos hc] at hf
    obtain ⟨x9, h9, e9⟩ := map_some_inv hf
    subst e9
    exact B_X10_passDay_89 a0 a1 l2 l3 l4 l6 σ G hm ok_a0 ok_a1 h9 (fun v e => hb0 v (by rw [e])) (fun x e => hr x (by rw [e])) w (lv_sub hl [0, 1, 2, 3, 4, 5] rfl)
  · rw [if_neg hc] at hf
    refine lv_aload_n G.hx G.hb (dcs_get dec_X10_passDay_0 21 rfl) rfl (lv_at hl 0 rfl) ?_
    refine lv_iload G.hx G.hb (dcs_get dec_X10_passDay_0 22 rfl) (lv_at hl 5 rfl) ?_
    refine lv_iload G.hx G.hb (dcs_get dec_X10_passDay_0 23 rfl) (lv_at hl 6 rfl) ?_
    obtain ⟨v4, h3, hf⟩ := cB_some hf
    refine a_i (k_V (As := [.int l6, .int l7]) (rest := []) cls10 lb_X10_isAble lv_X10_isAble q_812 (C_X10_isAble G.2.2.1 a0 l6 l7 σ h3 ok_a0) ⟨(Nat.le_of_ble_eq_true rfl), (Nat.le_of_ble_eq_true rfl)⟩ G w k_a0.1 k_a0.2 rfl rfl hl.1 (Nat.le_of_ble_eq_true rfl) (dcs_get dec_X10_passDay_0 24 rfl) ⟨Nat.le_refl _, Nat.le_refl _⟩) G w (fun H locs w => ?_)
    refine lv_if_eq (tgt := 83) G.hx G.hb (dcs_get dec_X10_passDay_0 25 rfl) (by decide) (fun hc => ?_) (fun hc => ?_)
    · rw [if_pos hc] at hf
      exact B_X10_passDay_83 a0 a1 l2 l3 l4 l6 l7 σ G hm ok_a0 ok_a1 hf hb0 hb1 hr w (lv_sub hl [0, 1, 2, 3, 4, 5, 6] rfl)
    · rw [if_neg hc] at hf
      refine lv_aload_n G.hx G.hb (dcs_get dec_X10_passDay_0 26 rfl) rfl (lv_at hl 0 rfl) ?_
      refine lv_iload_n G.hx G.hb (dcs_get dec_X10_passDay_0 27 rfl) rfl (lv_at hl 2 rfl) ?_
      refine lv_iload G.hx G.hb (dcs_get dec_X10_passDay_0 28 rfl) (lv_at hl 5 rfl) ?_
      refine lv_iload G.hx G.hb (dcs_get dec_X10_passDay_0 29 rfl) (lv_at hl 6 rfl) ?_
      refine lv_iconst (v := (0 : Int32)) G.hx G.hb (dcs_get dec_X10_passDay_0 30 rfl) (by decide) ?_
      obtain ⟨v6, h5, hf⟩ := cB_some hf
      refine a_i (k_V (As := [.int l2, .int l6, .int l7, .int (0 : Int32)]) (rest := []) cls10 lb_X10_isAnswer lv_X10_isAnswer q_813 (C_X10_isAnswer G.2.2.1 a0 l2 l6 l7 (0 : Int32) σ h5 ok_a0) ⟨(Nat.le_of_ble_eq_true rfl), (Nat.le_of_ble_eq_true rfl)⟩ G w k_a0.1 k_a0.2 rfl rfl hl.1 (Nat.le_of_ble_eq_true rfl) (dcs_get dec_X10_passDay_0 31 rfl) ⟨Nat.le_refl _, Nat.le_refl _⟩) G w (fun H locs w => ?_)
      refine lv_if_ne (tgt := 83) G.hx G.hb (dcs_get dec_X10_passDay_0 32 rfl) (by decide) (fun hc => ?_) (fun hc => ?_)
      · rw [if_neg hc] at hf
        exact B_X10_passDay_83 a0 a1 l2 l3 l4 l6 l7 σ G hm ok_a0 ok_a1 hf hb0 hb1 hr w (lv_sub hl [0, 1, 2, 3, 4, 5, 6] rfl)
      · rw [if_pos hc] at hf
        refine lv_aload_n G.hx G.hb (dcs_get dec_X10_passDay_0 33 rfl) rfl (lv_at hl 0 rfl) ?_
        refine lv_iload G.hx G.hb (dcs_get dec_X10_passDay_0 34 rfl) (lv_at hl 5 rfl) ?_
        refine lv_iload G.hx G.hb (dcs_get dec_X10_passDay_0 35 rfl) (lv_at hl 6 rfl) ?_
        refine lv_iconst (v := (0 : Int32)) G.hx G.hb (dcs_get dec_X10_passDay_0 36 rfl) (by decide) ?_
        refine lv_lload G.hx G.hb (dcs_get dec_X10_passDay_0 37 rfl) (lv_at hl 4 rfl) ?_
        refine lv_iload G.hx G.hb (dcs_get dec_X10_passDay_0 38 rfl) (lv_at hl 5 rfl) ?_
        obtain ⟨v8, h7, hf⟩ := cB_some hf
        refine a_i (k_SN (As := [.long l4, .int l6]) (rest := [.int (0 : Int32), .int l7, .int l6, .ref (ad a0)]) lb_X11_hearersOf q_757 nm_803 (C_X11_hearersOf G.2.2.1 l4 l6 σ h7 ) ⟨(Nat.le_of_ble_eq_true rfl), (Nat.le_of_ble_eq_true rfl)⟩ G w rfl rfl hl.1 (Nat.le_of_ble_eq_true rfl) (dcs_get dec_X10_passDay_0 39 rfl) ⟨Nat.le_refl _, Nat.le_refl _⟩) G w (fun H locs w => ?_)
        obtain ⟨σ10, h9, hf⟩ := cB_some hf
        refine a_v (k_V (As := [.int l6, .int l7, .int (0 : Int32), .int v8]) (rest := []) cls10 lb_X10_drumByDay lv_X10_drumByDay q_814 (C_X10_drumByDay G.2.2.1 a0 l6 l7 (0 : Int32) v8 σ h9 ok_a0) ⟨(Nat.le_of_ble_eq_true rfl), (Nat.le_of_ble_eq_true rfl)⟩ G w k_a0.1 k_a0.2 rfl rfl hl.1 (Nat.le_of_ble_eq_true rfl) (dcs_get dec_X10_passDay_1 0 rfl) ⟨Nat.le_refl _, Nat.le_refl _⟩) G w (fun H locs w => ?_)
        exact B_X10_passDay_83 a0 a1 l2 l3 l4 l6 l7 σ10 G hm ok_a0 ok_a1 hf hb0 hb1 hr w (lv_sub hl [0, 1, 2, 3, 4, 5, 6] rfl)
set_option maxRecDepth 100000 in
set_option maxHeartbeats 4000000 in
theorem H_X10_passDay_34 {σ0 : hSt} {o : (Int32 × hSt) ⊕ (hSt)} (a0 : Nat) (a1 : Nat) (l2 : Int32) (l3 : Int32) (l4 : Int64) (l6 : Int32) (G : Gx p m c cX10_passDay 8 s args RX10 D ay NC ad (aN NC ad)) (hm : meth.sig.returnType = none ∧ meth.locks = false) (ok_a0 : okr kC NC 10 a0 = true) (ok_a1 : okr kC NC 7 a1 = true) (hb0 : ∀ (v : Int32 × hSt), o = .inl v → ∀ (H : Heap) (locs : List Loc) (ls : Array Slot), Wd D ay kC NC ad (aN NC ad) s v.2 H locs → lv_has ls 8 [(0, .ref (ad a0)), (1, .ref (ad a1)), (2, .int l2), (3, .int l3), (4, .long l4), (6, .int v.1)] → W p l e (rmK 5 121) s m args below meth c H locs 0 0 (MQ below (cV D ay kC NC ad σ0) args s 0 0 (aN NC ad)) (F0 m 13 ls [])) (hr : ∀ x, o = .inr (x) → x = σ0) : ∀ (k : Nat) (v : Int32 × hSt), lp (S_X10_passDay_34 a0 a1 l2 l3 l4 l6) k v = some o → ∀ (H : Heap) (locs : List Loc) (ls : Array Slot), Wd D ay kC NC ad (aN NC ad) s v.2 H locs → lv_has ls 8 [(0, .ref (ad a0)), (1, .ref (ad a1)), (2, .int l2), (3, .int l3), (4, .long l4), (6, .int l6), (7, .int v.1)] → W p l e (rmK 5 121) s m args below meth c H locs 0 0 (MQ below (cV D ay kC NC ad σ0) args s 0 0 (aN NC ad)) (F0 m 34 ls []) := by
  intro k
  induction k with
  | zero => intro v hf; cases hf
  | succ k ih =>
    intro v hf H locs ls w hl
    obtain ⟨o1, h1, h2, h3⟩ := lp_some hf
    exact B_X10_passDay_34b a0 a1 l2 l3 l4 l6 v.1 v.2 G hm ok_a0 ok_a1 h1 (fun v' e => hb0 v' (h3 _ e).symm) (fun v' e => ih v' (h2 v' e)) (fun x e => hr x (h3 _ e).symm) w hl
set_option maxRecDepth 100000 in
set_option maxHeartbeats 4000000 in
theorem B_X10_passDay_34 {H : Heap} {locs : List Loc} {ls : Array Slot} {σ0 : hSt} {o : (Int32 × hSt) ⊕ (hSt)} (a0 : Nat) (a1 : Nat) (l2 : Int32) (l3 : Int32) (l4 : Int64) (l6 : Int32) (l7 : Int32) (σ : hSt) (G : Gx p m c cX10_passDay 8 s args RX10 D ay NC ad (aN NC ad)) (hm : meth.sig.returnType = none ∧ meth.locks = false) (ok_a0 : okr kC NC 10 a0 = true) (ok_a1 : okr kC NC 7 a1 = true) (hf : F_X10_passDay_34 a0 a1 l2 l3 l4 l6 l7 σ = some o) (hb0 : ∀ (v : Int32 × hSt), o = .inl v → ∀ (H : Heap) (locs : List Loc) (ls : Array Slot), Wd D ay kC NC ad (aN NC ad) s v.2 H locs → lv_has ls 8 [(0, .ref (ad a0)), (1, .ref (ad a1)), (2, .int l2), (3, .int l3), (4, .long l4), (6, .int v.1)] → W p l e (rmK 5 121) s m args below meth c H locs 0 0 (MQ below (cV D ay kC NC ad σ0) args s 0 0 (aN NC ad)) (F0 m 13 ls [])) (hr : ∀ x, o = .inr (x) → x = σ0) (w : Wd D ay kC NC ad (aN NC ad) s σ H locs) (hl : lv_has ls 8 [(0, .ref (ad a0)), (1, .ref (ad a1)), (2, .int l2), (3, .int l3), (4, .long l4), (6, .int l6), (7, .int l7)]) : W p l e (rmK 5 121) s m args below meth c H locs 0 0 (MQ below (cV D ay kC NC ad σ0) args s 0 0 (aN NC ad)) (F0 m 34 ls []) := by
  unfold F_X10_passDay_34 at hf
  exact H_X10_passDay_34 a0 a1 l2 l3 l4 l6  G hm ok_a0 ok_a1 hb0 hr fuel (l7, σ) hf _ _ _ w hl
set_option maxRecDepth 100000 in
set_option maxHeartbeats 4000000 in
theorem B_X10_passDay_13b {H : Heap} {locs : List Loc} {ls : Array Slot} {σ0 : hSt} {o : (Int32 × hSt) ⊕ (hSt)} (a0 : Nat) (a1 : Nat) (l2 : Int32) (l3 : Int32) (l4 : Int64) (l6 : Int32) (σ : hSt) (G : Gx p m c cX10_passDay 8 s args RX10 D ay NC ad (aN NC ad)) (hm : meth.sig.returnType = none ∧ meth.locks = false) (ok_a0 : okr kC NC 10 a0 = true) (ok_a1 : okr kC NC 7 a1 = true) (hf : F_X10_passDay_13b a0 a1 l2 l3 l4 l6 σ = some o) (hb0 : ∀ (v : Int32 × hSt), o = .inl v → ∀ (H : Heap) (locs : List Loc) (ls : Array Slot), Wd D ay kC NC ad (aN NC ad) s v.2 H locs → lv_has ls 8 [(0, .ref (ad a0)), (1, .ref (ad a1)), (2, .int l2), (3, .int l3), (4, .long l4), (6, .int v.1)] → W p l e (rmK 5 121) s m args below meth c H locs 0 0 (MQ below (cV D ay kC NC ad σ0) args s 0 0 (aN NC ad)) (F0 m 13 ls [])) (hr : ∀ x, o = .inr (x) → x = σ0) (w : Wd D ay kC NC ad (aN NC ad) s σ H locs) (hl : lv_has ls 8 [(0, .ref (ad a0)), (1, .ref (ad a1)), (2, .int l2), (3, .int l3), (4, .long l4), (6, .int l6)]) : W p l e (rmK 5 121) s m args below meth c H locs 0 0 (MQ below (cV D ay kC NC ad σ0) args s 0 0 (aN NC ad)) (F0 m 13 ls []) := by
  have k_a0 := okr_in ok_a0
  have k_a1 := okr_in ok_a1
  unfold F_X10_passDay_13b at hf
  refine lv_iload G.hx G.hb (dcs_get dec_X10_passDay_0 7 rfl) (lv_at hl 5 rfl) ?_
  refine lv_aload_n G.hx G.hb (dcs_get dec_X10_passDay_0 8 rfl) rfl (lv_at hl 1 rfl) ?_
  refine r_getiN (k := 0) cls7 fi_7_0.1 fi_7_0.2 nf_96 G w k_a1.1 k_a1.2 (dcs_get dec_X10_passDay_0 9 rfl) ?_
  refine lv_icmp_ge (tgt := 95) G.hx G.hb (dcs_get dec_X10_passDay_0 10 rfl) (by decide) (fun hc => ?_) (fun hc => ?_)
  · rw [if_pos hc] at hf
    refine lv_aload_n G.hx G.hb (dcs_get dec_X10_passDay_1 5 rfl) rfl (lv_at hl 0 rfl) ?_
    refine lv_aload_n G.hx G.hb (dcs_get dec_X10_passDay_1 6 rfl) rfl (lv_at hl 1 rfl) ?_
    refine lv_iload_n G.hx G.hb (dcs_get dec_X10_passDay_1 7 rfl) rfl (lv_at hl 3 rfl) ?_
    obtain ⟨σ12, h11, hf⟩ := cB_some hf
    refine a_v (k_V (As := [.ref (ad a1), .int l3]) (rest := []) cls10 lb_X10_passNight lv_X10_passNight q_815 (C_X10_passNight G.2.2.1 a0 a1 l3 σ h11 ok_a0 ok_a1) ⟨(Nat.le_of_ble_eq_true rfl), (Nat.le_of_ble_eq_true rfl)⟩ G w k_a0.1 k_a0.2 rfl rfl hl.1 (Nat.le_of_ble_eq_true rfl) (dcs_get dec_X10_passDay_1 8 rfl) ⟨Nat.le_refl _, Nat.le_refl _⟩) G w (fun H locs w => ?_)
    have e9 := hr _ (Option.some.inj hf).symm
    exact r_vret G w hm e9 (dcs_get dec_X10_passDay_1 9 rfl)
  · rw [if_neg hc] at hf
    refine lv_iload G.hx G.hb (dcs_get dec_X10_passDay_0 11 rfl) (lv_at hl 5 rfl) ?_
    refine lv_iload_n G.hx G.hb (dcs_get dec_X10_passDay_0 12 rfl) rfl (lv_at hl 3 rfl) ?_
    refine lv_icmp_ne (tgt := 31) G.hx G.hb (dcs_get dec_X10_passDay_0 13 rfl) (by decide) (fun hc => ?_) (fun hc => ?_)
    · rw [if_neg hc] at hf
      refine lv_iconst (v := (0 : Int32)) G.hx G.hb (dcs_get dec_X10_passDay_0 15 rfl) (by decide) ?_
      refine lv_istore (lv' := [(7, .int (0 : Int32)), (0, .ref (ad a0)), (1, .ref (ad a1)), (2, .int l2), (3, .int l3), (4, .long l4), (6, .int l6)]) G.hx G.hb (dcs_get dec_X10_passDay_0 16 rfl) hl (by decide) rfl (fun ls hl => ?_)
      exact B_X10_passDay_34 a0 a1 l2 l3 l4 l6 (0 : Int32) σ G hm ok_a0 ok_a1 hf hb0 hr w (lv_sub hl [1, 2, 3, 4, 5, 6, 0] rfl)
    · rw [if_pos hc] at hf
      refine lv_goto (tgt := 89) G.hx G.hb (dcs_get dec_X10_passDay_0 14 rfl) (by decide) ?_
      exact B_X10_passDay_89 a0 a1 l2 l3 l4 l6 σ G hm ok_a0 ok_a1 hf hb0 hr w (lv_sub hl [0, 1, 2, 3, 4, 5] rfl)
set_option maxRecDepth 100000 in
set_option maxHeartbeats 4000000 in
theorem H_X10_passDay_13 {σ0 : hSt} (a0 : Nat) (a1 : Nat) (l2 : Int32) (l3 : Int32) (l4 : Int64) (G : Gx p m c cX10_passDay 8 s args RX10 D ay NC ad (aN NC ad)) (hm : meth.sig.returnType = none ∧ meth.locks = false) (ok_a0 : okr kC NC 10 a0 = true) (ok_a1 : okr kC NC 7 a1 = true)  : ∀ (k : Nat) (v : Int32 × hSt), lp (S_X10_passDay_13 a0 a1 l2 l3 l4) k v = some σ0 → ∀ (H : Heap) (locs : List Loc) (ls : Array Slot), Wd D ay kC NC ad (aN NC ad) s v.2 H locs → lv_has ls 8 [(0, .ref (ad a0)), (1, .ref (ad a1)), (2, .int l2), (3, .int l3), (4, .long l4), (6, .int v.1)] → W p l e (rmK 5 121) s m args below meth c H locs 0 0 (MQ below (cV D ay kC NC ad σ0) args s 0 0 (aN NC ad)) (F0 m 13 ls []) := by
  intro k
  induction k with
  | zero => intro v hf; cases hf
  | succ k ih =>
    intro v hf H locs ls w hl
    obtain ⟨o1, h1, h2, h3⟩ := lp_some hf
    exact B_X10_passDay_13b a0 a1 l2 l3 l4 v.1 v.2 G hm ok_a0 ok_a1 h1  (fun v' e => ih v' (h2 v' e)) (fun x e => h3 x e) w hl
set_option maxRecDepth 100000 in
set_option maxHeartbeats 4000000 in
theorem B_X10_passDay_13 {H : Heap} {locs : List Loc} {ls : Array Slot} {σ0 : hSt} (a0 : Nat) (a1 : Nat) (l2 : Int32) (l3 : Int32) (l4 : Int64) (l6 : Int32) (σ : hSt) (G : Gx p m c cX10_passDay 8 s args RX10 D ay NC ad (aN NC ad)) (hm : meth.sig.returnType = none ∧ meth.locks = false) (ok_a0 : okr kC NC 10 a0 = true) (ok_a1 : okr kC NC 7 a1 = true) (hf : F_X10_passDay_13 a0 a1 l2 l3 l4 l6 σ = some σ0)  (w : Wd D ay kC NC ad (aN NC ad) s σ H locs) (hl : lv_has ls 8 [(0, .ref (ad a0)), (1, .ref (ad a1)), (2, .int l2), (3, .int l3), (4, .long l4), (6, .int l6)]) : W p l e (rmK 5 121) s m args below meth c H locs 0 0 (MQ below (cV D ay kC NC ad σ0) args s 0 0 (aN NC ad)) (F0 m 13 ls []) := by
  unfold F_X10_passDay_13 at hf
  exact H_X10_passDay_13 a0 a1 l2 l3 l4  G hm ok_a0 ok_a1  fuel (l6, σ) hf _ _ _ w hl
set_option maxRecDepth 100000 in
set_option maxHeartbeats 4000000 in
theorem B_X10_passDay_0 {H : Heap} {locs : List Loc} {ls : Array Slot} {σ0 : hSt} (a0 : Nat) (a1 : Nat) (l2 : Int32) (l3 : Int32) (σ : hSt) (G : Gx p m c cX10_passDay 8 s args RX10 D ay NC ad (aN NC ad)) (hm : meth.sig.returnType = none ∧ meth.locks = false) (ok_a0 : okr kC NC 10 a0 = true) (ok_a1 : okr kC NC 7 a1 = true) (hf : F_X10_passDay a0 a1 l2 l3 σ = some σ0)  (w : Wd D ay kC NC ad (aN NC ad) s σ H locs) (hl : lv_has ls 8 [(0, .ref (ad a0)), (1, .ref (ad a1)), (2, .int l2), (3, .int l3)]) : W p l e (rmK 5 121) s m args below meth c H locs 0 0 (MQ below (cV D ay kC NC ad σ0) args s 0 0 (aN NC ad)) (F0 m 0 ls []) := by
  have k_a0 := okr_in ok_a0
  have k_a1 := okr_in ok_a1
  unfold F_X10_passDay at hf
  refine lv_aload_n G.hx G.hb (dcs_get dec_X10_passDay_0 0 rfl) rfl (lv_at hl 1 rfl) ?_
  refine lv_aload_n G.hx G.hb (dcs_get dec_X10_passDay_0 1 rfl) rfl (lv_at hl 0 rfl) ?_
  refine r_geti (k := 0) cls10 fi_10_0.1 fi_10_0.2 q_233 G w k_a0.1 k_a0.2 (dcs_get dec_X10_passDay_0 2 rfl) ?_
  obtain ⟨v14, σ15, h13, hf⟩ := cC_some hf
  refine a_l (k_VN (As := [.int (σ.1 a0 0)]) (rest := []) cls7 lb_X7_heardOn lv_X7_heardOn nm_802 (C_X7_heardOn G.2.2.1 a1 (σ.1 a0 0) σ h13 ok_a1) ⟨(Nat.le_of_ble_eq_true rfl), (Nat.le_of_ble_eq_true rfl)⟩ G w k_a1.1 k_a1.2 rfl rfl hl.1 (Nat.le_of_ble_eq_true rfl) (dcs_get dec_X10_passDay_0 3 rfl) ⟨Nat.le_refl _, Nat.le_refl _⟩) G w (fun H locs w => ?_)
  refine lv_lstore (lv' := [(4, .long v14), (0, .ref (ad a0)), (1, .ref (ad a1)), (2, .int l2), (3, .int l3)]) G.hx G.hb (dcs_get dec_X10_passDay_0 4 rfl) hl (by decide) rfl (fun ls hl => ?_)
  refine lv_iconst (v := (0 : Int32)) G.hx G.hb (dcs_get dec_X10_passDay_0 5 rfl) (by decide) ?_
  refine lv_istore (lv' := [(6, .int (0 : Int32)), (4, .long v14), (0, .ref (ad a0)), (1, .ref (ad a1)), (2, .int l2), (3, .int l3)]) G.hx G.hb (dcs_get dec_X10_passDay_0 6 rfl) hl (by decide) rfl (fun ls hl => ?_)
  exact B_X10_passDay_13 a0 a1 l2 l3 v14 (0 : Int32) σ15 G hm ok_a0 ok_a1 hf  w (lv_sub hl [2, 3, 4, 5, 1, 0] rfl)
end
set_option maxRecDepth 100000 in
set_option maxHeartbeats 4000000 in
theorem C_X10_passDay {l : Launch} {D : va_G} {ay : Nat → ClassId} {ad : Nat → Nat} (hi : hInj NC ad) (a0 : Nat) (a1 : Nat) (l2 : Int32) (l3 : Int32) (σ : hSt) {σ0 : hSt} (hf : F_X10_passDay a0 a1 l2 l3 σ = some σ0) (ok_a0 : okr kC NC 10 a0 = true) (ok_a1 : okr kC NC 7 a1 = true) : hM l D ay kC NC ad yX10_passDay cX10_passDay 8 (none) (rmK 5 121) [.ref (ad a0), .ref (ad a1), .int l2, .int l3] σ (cV D ay kC NC ad σ0) := by
  refine hM_in (by decide) hi (Nat.le_of_ble_eq_true rfl) ?_
  intro p e s m below meth c G hm w ls hl
  exact B_X10_passDay_0 a0 a1 l2 l3 σ G hm ok_a0 ok_a1 hf w (lv_sub hl [0, 1, 2, 3] rfl)
