/-! HillDrums.Law.add(I)I -/
def DL_X0_add_0 : List (Nat × Instr × Nat) := [(0, .aload_n 0, 1), (1, .getfield 18, 3), (4, .sipush 401, 3), (7, .if_icmp .lt 8, 3), (10, .aload_n 0, 1), (11, .getfield 18, 3), (14, .ireturn, 1), (15, .aload_n 0, 1), (16, .getfield 9, 3), (19, .aload_n 0, 1), (20, .getfield 18, 3), (23, .iload_n 1, 1), (24, .iastore, 1), (25, .aload_n 0, 1), (26, .dup, 1), (27, .getfield 18, 3), (30, .iconst 1, 1), (31, .iadd, 1), (32, .putfield 18, 3), (35, .aload_n 0, 1), (36, .getfield 18, 3), (39, .iconst 1, 1), (40, .isub, 1), (41, .ireturn, 1)]
set_option maxRecDepth 100000 in
theorem dec_X0_add_0 : dcs cX0_add DL_X0_add_0 = true := by decide +kernel
theorem lb_X0_add : lkB yX0_add cX0_add 2 ((some .int)) 1 := ⟨q_376, q_4, ⟨by decide, by decide⟩, by decide +kernel⟩
theorem lv_X0_add : lkV yX0_add := ⟨q_375, qs_2⟩
def F_X0_add (a0 : Nat) (l1 : Int32) (σ : hSt) : Option (Int32 × hSt) :=
if (σ.1 a0 2) < (401 : Int32) then (
cR (σ.2.2 a0 0) (okr kC NC 101) fun z1 =>
cG (inb (σ.1 a0 2) (kC z1).2) <|
cL (uI σ z1 (σ.1 a0 2).toNatClampNeg l1) fun σ3 =>
cL (uI σ3 a0 2 ((σ3.1 a0 2) + (1 : Int32))) fun σ4 =>
some (((σ4.1 a0 2) - (1 : Int32), σ4))) else (
some ((σ.1 a0 2, σ)))
section
variable {p : Program} {l : Launch} {e : Env} {s : State} {m : MethodId} {args : Array Value} {below : List Frame} {meth : Method} {c : Code} {D : va_G} {ay : Nat → ClassId} {ad : Nat → Nat}
set_option maxRecDepth 100000 in
set_option maxHeartbeats 4000000 in
theorem B_X0_add_0 {H : Heap} {locs : List Loc} {ls : Array Slot} {r0 : Int32} {σ0 : hSt} (a0 : Nat) (l1 : Int32) (σ : hSt) (G : Gx p m c cX0_add 2 s args RX0 D ay NC ad (aN NC ad)) (hm : meth.sig.returnType = (some .int) ∧ meth.locks = false) (ok_a0 : okr kC NC 0 a0 = true) (hf : F_X0_add a0 l1 σ = some (r0, σ0))  (w : Wd D ay kC NC ad (aN NC ad) s σ H locs) (hl : lv_has ls 2 [(0, .ref (ad a0)), (1, .int l1)]) : W p l e (rmK 0 0) s m args below meth c H locs 0 0 (MQ below (cI D ay kC NC ad r0 σ0) args s 0 0 (aN NC ad)) (F0 m 0 ls []) := by
  have k_a0 := okr_in ok_a0
  unfold F_X0_add at hf
  refine lv_aload_n G.hx G.hb (dcs_get dec_X0_add_0 0 rfl) rfl (lv_at hl 0 rfl) ?_
  refine r_geti (k := 2) cls0 fi_0_2.1 fi_0_2.2 q_61 G w k_a0.1 k_a0.2 (dcs_get dec_X0_add_0 1 rfl) ?_
  refine lv_sipush (v := (401 : Int32)) G.hx G.hb (dcs_get dec_X0_add_0 2 rfl) (by decide) ?_
  refine lv_icmp_lt (tgt := 15) G.hx G.hb (dcs_get dec_X0_add_0 3 rfl) (by decide) (fun hc => ?_) (fun hc => ?_)
  · rw [if_pos hc] at hf
    refine lv_aload_n G.hx G.hb (dcs_get dec_X0_add_0 7 rfl) rfl (lv_at hl 0 rfl) ?_
    obtain ⟨z1, e_z1, ok_z1, hf⟩ := cR_some hf
    have k_z1 := okr_in ok_z1
    refine r_getr (k := 0) cls0 fi_0_0.1 fi_0_0.2 q_59 G w k_a0.1 k_a0.2 e_z1 (dcs_get dec_X0_add_0 8 rfl) ?_
    refine lv_aload_n G.hx G.hb (dcs_get dec_X0_add_0 9 rfl) rfl (lv_at hl 0 rfl) ?_
    refine r_geti (k := 2) cls0 fi_0_2.1 fi_0_2.2 q_61 G w k_a0.1 k_a0.2 (dcs_get dec_X0_add_0 10 rfl) ?_
    refine lv_iload_n G.hx G.hb (dcs_get dec_X0_add_0 11 rfl) rfl (lv_at hl 1 rfl) ?_
    obtain ⟨h2, hf⟩ := cG_some hf
    obtain ⟨σ3, e_σ3, hf⟩ := cL_some hf
    refine r_iast G w k_z1.1 k_z1.2 h2 (dcs_get dec_X0_add_0 12 rfl) (fun H locs w => ?_)
    have w := Wd.nm e_σ3 w
    refine lv_aload_n G.hx G.hb (dcs_get dec_X0_add_0 13 rfl) rfl (lv_at hl 0 rfl) ?_
    refine lv_dup G.hx G.hb (dcs_get dec_X0_add_0 14 rfl) rfl ?_
    refine r_geti (k := 2) cls0 fi_0_2.1 fi_0_2.2 q_61 G w k_a0.1 k_a0.2 (dcs_get dec_X0_add_0 15 rfl) ?_
    refine lv_iconst (v := (1 : Int32)) G.hx G.hb (dcs_get dec_X0_add_0 16 rfl) (by decide) ?_
    refine lv_iadd G.hx G.hb (dcs_get dec_X0_add_0 17 rfl) ?_
    obtain ⟨σ4, e_σ4, hf⟩ := cL_some hf
    refine r_puti (k := 2) cls0 ct0 fi_0_2.1 fi_0_2.2 fp_0_2.1 fp_0_2.2 q_61 rfl rfl G w k_a0.1 k_a0.2 (dcs_get dec_X0_add_0 18 rfl) (fun H locs w => ?_)
    have w := Wd.nm e_σ4 w
    refine lv_aload_n G.hx G.hb (dcs_get dec_X0_add_0 19 rfl) rfl (lv_at hl 0 rfl) ?_
    refine r_geti (k := 2) cls0 fi_0_2.1 fi_0_2.2 q_61 G w k_a0.1 k_a0.2 (dcs_get dec_X0_add_0 20 rfl) ?_
    refine lv_iconst (v := (1 : Int32)) G.hx G.hb (dcs_get dec_X0_add_0 21 rfl) (by decide) ?_
    refine lv_isub G.hx G.hb (dcs_get dec_X0_add_0 22 rfl) ?_
    have e9 := Option.some.inj hf
    exact r_iret G w hm (congrArg Prod.fst e9) (congrArg Prod.snd e9) (dcs_get dec_X0_add_0 23 rfl)
  · rw [if_neg hc] at hf
    refine lv_aload_n G.hx G.hb (dcs_get dec_X0_add_0 4 rfl) rfl (lv_at hl 0 rfl) ?_
    refine r_geti (k := 2) cls0 fi_0_2.1 fi_0_2.2 q_61 G w k_a0.1 k_a0.2 (dcs_get dec_X0_add_0 5 rfl) ?_
    have e9 := Option.some.inj hf
    exact r_iret G w hm (congrArg Prod.fst e9) (congrArg Prod.snd e9) (dcs_get dec_X0_add_0 6 rfl)
end
set_option maxRecDepth 100000 in
set_option maxHeartbeats 4000000 in
theorem C_X0_add {l : Launch} {D : va_G} {ay : Nat → ClassId} {ad : Nat → Nat} (hi : hInj NC ad) (a0 : Nat) (l1 : Int32) (σ : hSt) {r0 : Int32} {σ0 : hSt} (hf : F_X0_add a0 l1 σ = some (r0, σ0)) (ok_a0 : okr kC NC 0 a0 = true) : hM l D ay kC NC ad yX0_add cX0_add 2 ((some .int)) (rmK 0 0) [.ref (ad a0), .int l1] σ (cI D ay kC NC ad r0 σ0) := by
  refine hM_in (by decide) hi (Nat.le_of_ble_eq_true rfl) ?_
  intro p e s m below meth c G hm w ls hl
  exact B_X0_add_0 a0 l1 σ G hm ok_a0 hf w (lv_sub hl [0, 1] rfl)

/-! HillDrums.Law.setUsual()V -/
def DL_X0_setUsual_0 : List (Nat × Instr × Nat) := [(0, .aload_n 0, 1), (1, .iconst 0, 1), (2, .putfield 18, 3), (5, .aload_n 0, 1), (6, .bipush 10, 2), (8, .invokevirtual 25, 3), (11, .pop, 1), (12, .aload_n 0, 1), (13, .sipush (-141), 3), (16, .invokevirtual 25, 3), (19, .pop, 1), (20, .aload_n 0, 1), (21, .bipush (-45), 2), (23, .invokevirtual 25, 3), (26, .pop, 1), (27, .aload_n 0, 1), (28, .bipush (-59), 2), (30, .invokevirtual 25, 3), (33, .pop, 1), (34, .return_, 1)]
set_option maxRecDepth 100000 in
theorem dec_X0_setUsual_0 : dcs cX0_setUsual DL_X0_setUsual_0 = true := by decide +kernel
theorem lb_X0_setUsual : lkB yX0_setUsual cX0_setUsual 1 (none) 0 := ⟨q_372, q_4, ⟨by decide, by decide⟩, by decide +kernel⟩
theorem lv_X0_setUsual : lkV yX0_setUsual := ⟨q_371, qs_1⟩
def F_X0_setUsual (a0 : Nat) (σ : hSt) : Option (hSt) :=
cL (uI σ a0 2 (0 : Int32)) fun σ1 =>
cC (F_X0_add a0 (10 : Int32) σ1) fun v3 σ4 =>
cC (F_X0_add a0 (-141 : Int32) σ4) fun v6 σ7 =>
cC (F_X0_add a0 (-45 : Int32) σ7) fun v9 σ10 =>
cC (F_X0_add a0 (-59 : Int32) σ10) fun v12 σ13 =>
some (σ13)
section
variable {p : Program} {l : Launch} {e : Env} {s : State} {m : MethodId} {args : Array Value} {below : List Frame} {meth : Method} {c : Code} {D : va_G} {ay : Nat → ClassId} {ad : Nat → Nat}
set_option maxRecDepth 100000 in
set_option maxHeartbeats 4000000 in
theorem B_X0_setUsual_0 {H : Heap} {locs : List Loc} {ls : Array Slot} {σ0 : hSt} (a0 : Nat) (σ : hSt) (G : Gx p m c cX0_setUsual 1 s args RX0 D ay NC ad (aN NC ad)) (hm : meth.sig.returnType = none ∧ meth.locks = false) (ok_a0 : okr kC NC 0 a0 = true) (hf : F_X0_setUsual a0 σ = some σ0)  (w : Wd D ay kC NC ad (aN NC ad) s σ H locs) (hl : lv_has ls 1 [(0, .ref (ad a0))]) : W p l e (rmK 1 21) s m args below meth c H locs 0 0 (MQ below (cV D ay kC NC ad σ0) args s 0 0 (aN NC ad)) (F0 m 0 ls []) := by
  have k_a0 := okr_in ok_a0
  unfold F_X0_setUsual at hf
  refine lv_aload_n G.hx G.hb (dcs_get dec_X0_setUsual_0 0 rfl) rfl (lv_at hl 0 rfl) ?_
  refine lv_iconst (v := (0 : Int32)) G.hx G.hb (dcs_get dec_X0_setUsual_0 1 rfl) (by decide) ?_
  obtain ⟨σ1, e_σ1, hf⟩ := cL_some hf
  refine r_puti (k := 2) cls0 ct0 fi_0_2.1 fi_0_2.2 fp_0_2.1 fp_0_2.2 q_61 rfl rfl G w k_a0.1 k_a0.2 (dcs_get dec_X0_setUsual_0 2 rfl) (fun H locs w => ?_)
  have w := Wd.nm e_σ1 w
  refine lv_aload_n G.hx G.hb (dcs_get dec_X0_setUsual_0 3 rfl) rfl (lv_at hl 0 rfl) ?_
  refine lv_bipush (v := (10 : Int32)) G.hx G.hb (dcs_get dec_X0_setUsual_0 4 rfl) (by decide) ?_
  obtain ⟨v3, σ4, h2, hf⟩ := cC_some hf
  refine a_i (k_V (As := [.int (10 : Int32)]) (rest := []) cls0 lb_X0_add lv_X0_add q_373 (C_X0_add G.2.2.1 a0 (10 : Int32) σ1 h2 ok_a0) ⟨(Nat.le_of_ble_eq_true rfl), (Nat.le_of_ble_eq_true rfl)⟩ G w k_a0.1 k_a0.2 rfl rfl hl.1 (Nat.le_of_ble_eq_true rfl) (dcs_get dec_X0_setUsual_0 5 rfl) ⟨Nat.le_refl _, Nat.le_refl _⟩) G w (fun H locs w => ?_)
  refine lv_pop G.hx G.hb (dcs_get dec_X0_setUsual_0 6 rfl) rfl ?_
  refine lv_aload_n G.hx G.hb (dcs_get dec_X0_setUsual_0 7 rfl) rfl (lv_at hl 0 rfl) ?_
  refine lv_sipush (v := (-141 : Int32)) G.hx G.hb (dcs_get dec_X0_setUsual_0 8 rfl) (by decide) ?_
  obtain ⟨v6, σ7, h5, hf⟩ := cC_some hf
  refine a_i (k_V (As := [.int (-141 : Int32)]) (rest := []) cls0 lb_X0_add lv_X0_add q_373 (C_X0_add G.2.2.1 a0 (-141 : Int32) σ4 h5 ok_a0) ⟨(Nat.le_of_ble_eq_true rfl), (Nat.le_of_ble_eq_true rfl)⟩ G w k_a0.1 k_a0.2 rfl rfl hl.1 (Nat.le_of_ble_eq_true rfl) (dcs_get dec_X0_setUsual_0 9 rfl) ⟨Nat.le_refl _, Nat.le_refl _⟩) G w (fun H locs w => ?_)
  refine lv_pop G.hx G.hb (dcs_get dec_X0_setUsual_0 10 rfl) rfl ?_
  refine lv_aload_n G.hx G.hb (dcs_get dec_X0_setUsual_0 11 rfl) rfl (lv_at hl 0 rfl) ?_
  refine lv_bipush (v := (-45 : Int32)) G.hx G.hb (dcs_get dec_X0_setUsual_0 12 rfl) (by decide) ?_
  obtain ⟨v9, σ10, h8, hf⟩ := cC_some hf
  refine a_i (k_V (As := [.int (-45 : Int32)]) (rest := []) cls0 lb_X0_add lv_X0_add q_373 (C_X0_add G.2.2.1 a0 (-45 : Int32) σ7 h8 ok_a0) ⟨(Nat.le_of_ble_eq_true rfl), (Nat.le_of_ble_eq_true rfl)⟩ G w k_a0.1 k_a0.2 rfl rfl hl.1 (Nat.le_of_ble_eq_true rfl) (dcs_get dec_X0_setUsual_0 13 rfl) ⟨Nat.le_refl _, Nat.le_refl _⟩) G w (fun H locs w => ?_)
  refine lv_pop G.hx G.hb (dcs_get dec_X0_setUsual_0 14 rfl) rfl ?_
  refine lv_aload_n G.hx G.hb (dcs_get dec_X0_setUsual_0 15 rfl) rfl (lv_at hl 0 rfl) ?_
  refine lv_bipush (v := (-59 : Int32)) G.hx G.hb (dcs_get dec_X0_setUsual_0 16 rfl) (by decide) ?_
  obtain ⟨v12, σ13, h11, hf⟩ := cC_some hf
  refine a_i (k_V (As := [.int (-59 : Int32)]) (rest := []) cls0 lb_X0_add lv_X0_add q_373 (C_X0_add G.2.2.1 a0 (-59 : Int32) σ10 h11 ok_a0) ⟨(Nat.le_of_ble_eq_true rfl), (Nat.le_of_ble_eq_true rfl)⟩ G w k_a0.1 k_a0.2 rfl rfl hl.1 (Nat.le_of_ble_eq_true rfl) (dcs_get dec_X0_setUsual_0 17 rfl) ⟨Nat.le_refl _, Nat.le_refl _⟩) G w (fun H locs w => ?_)
  refine lv_pop G.hx G.hb (dcs_get dec_X0_setUsual_0 18 rfl) rfl ?_
  have e9 := Option.some.inj hf
  exact r_vret G w hm e9 (dcs_get dec_X0_setUsual_0 19 rfl)
end
set_option maxRecDepth 100000 in
set_option maxHeartbeats 4000000 in
theorem C_X0_setUsual {l : Launch} {D : va_G} {ay : Nat → ClassId} {ad : Nat → Nat} (hi : hInj NC ad) (a0 : Nat) (σ : hSt) {σ0 : hSt} (hf : F_X0_setUsual a0 σ = some σ0) (ok_a0 : okr kC NC 0 a0 = true) : hM l D ay kC NC ad yX0_setUsual cX0_setUsual 1 (none) (rmK 1 21) [.ref (ad a0)] σ (cV D ay kC NC ad σ0) := by
  refine hM_in (by decide) hi (Nat.le_of_ble_eq_true rfl) ?_
  intro p e s m below meth c G hm w ls hl
  exact B_X0_setUsual_0 a0 σ G hm ok_a0 hf w (lv_sub hl [0] rfl)

/-! HillDrums.Law.aimHere(I)V -/
def DL_X0_aimHere_0 : List (Nat × Instr × Nat) := [(0, .iload_n 1, 1), (1, .ifCond .lt 20, 3), (4, .iload_n 1, 1), (5, .sipush 401, 3), (8, .if_icmp .ge 13, 3), (11, .aload_n 0, 1), (12, .getfield 9, 3), (15, .iload_n 1, 1), (16, .aload_n 0, 1), (17, .getfield 18, 3), (20, .iastore, 1), (21, .return_, 1)]
set_option maxRecDepth 100000 in
theorem dec_X0_aimHere_0 : dcs cX0_aimHere DL_X0_aimHere_0 = true := by decide +kernel
theorem lb_X0_aimHere : lkB yX0_aimHere cX0_aimHere 2 (none) 1 := ⟨q_661, q_4, ⟨by decide, by decide⟩, by decide +kernel⟩
theorem lv_X0_aimHere : lkV yX0_aimHere := ⟨q_660, qs_26⟩
def F_X0_aimHere_21  (σ : hSt) : Option (hSt) :=
some (σ)
def F_X0_aimHere (a0 : Nat) (l1 : Int32) (σ : hSt) : Option (hSt) :=
if l1 < 0 then (
F_X0_aimHere_21  σ) else (
if (401 : Int32) ≤ l1 then (
F_X0_aimHere_21  σ) else (
cR (σ.2.2 a0 0) (okr kC NC 101) fun z1 =>
cG (inb l1 (kC z1).2) <|
cL (uI σ z1 l1.toNatClampNeg (σ.1 a0 2)) fun σ3 =>
F_X0_aimHere_21  σ3))
section
variable {p : Program} {l : Launch} {e : Env} {s : State} {m : MethodId} {args : Array Value} {below : List Frame} {meth : Method} {c : Code} {D : va_G} {ay : Nat → ClassId} {ad : Nat → Nat}
set_option maxRecDepth 100000 in
set_option maxHeartbeats 4000000 in
theorem B_X0_aimHere_21 {H : Heap} {locs : List Loc} {ls : Array Slot} {σ0 : hSt}  (σ : hSt) (G : Gx p m c cX0_aimHere 2 s args RX0 D ay NC ad (aN NC ad)) (hm : meth.sig.returnType = none ∧ meth.locks = false)  (hf : F_X0_aimHere_21  σ = some σ0)  (w : Wd D ay kC NC ad (aN NC ad) s σ H locs) (hl : lv_has ls 2 []) : W p l e (rmK 0 0) s m args below meth c H locs 0 0 (MQ below (cV D ay kC NC ad σ0) args s 0 0 (aN NC ad)) (F0 m 21 ls []) := by
  unfold F_X0_aimHere_21 at hf
  have e9 := Option.some.inj hf
  exact r_vret G w hm e9 (dcs_get dec_X0_aimHere_0 11 rfl)
set_option maxRecDepth 100000 in
set_option maxHeartbeats 4000000 in
theorem B_X0_aimHere_0 {H : Heap} {locs : List Loc} {ls : Array Slot} {σ0 : hSt} (a0 : Nat) (l1 : Int32) (σ : hSt) (G : Gx p m c cX0_aimHere 2 s args RX0 D ay NC ad (aN NC ad)) (hm : meth.sig.returnType = none ∧ meth.locks = false) (ok_a0 : okr kC NC 0 a0 = true) (hf : F_X0_aimHere a0 l1 σ = some σ0)  (w : Wd D ay kC NC ad (aN NC ad) s σ H locs) (hl : lv_has ls 2 [(0, .ref (ad a0)), (1, .int l1)]) : W p l e (rmK 0 0) s m args below meth c H locs 0 0 (MQ below (cV D ay kC NC ad σ0) args s 0 0 (aN NC ad)) (F0 m 0 ls []) := by
  have k_a0 := okr_in ok_a0
  unfold F_X0_aimHere at hf
  refine lv_iload_n G.hx G.hb (dcs_get dec_X0_aimHere_0 0 rfl) rfl (lv_at hl 1 rfl) ?_
  refine lv_if_lt (tgt := 21) G.hx G.hb (dcs_get dec_X0_aimHere_0 1 rfl) (by decide) (fun hc => ?_) (fun hc => ?_)
  · rw [if_pos hc] at hf
    exact B_X0_aimHere_21  σ G hm  hf  w (lv_sub hl [] rfl)
  · rw [if_neg hc] at hf
    refine lv_iload_n G.hx G.hb (dcs_get dec_X0_aimHere_0 2 rfl) rfl (lv_at hl 1 rfl) ?_
    refine lv_sipush (v := (401 : Int32)) G.hx G.hb (dcs_get dec_X0_aimHere_0 3 rfl) (by decide) ?_
    refine lv_icmp_ge (tgt := 21) G.hx G.hb (dcs_get dec_X0_aimHere_0 4 rfl) (by decide) (fun hc => ?_) (fun hc => ?_)
    · rw [if_pos hc] at hf
      exact B_X0_aimHere_21  σ G hm  hf  w (lv_sub hl [] rfl)
    · rw [if_neg hc] at hf
      refine lv_aload_n G.hx G.hb (dcs_get dec_X0_aimHere_0 5 rfl) rfl (lv_at hl 0 rfl) ?_
      obtain ⟨z1, e_z1, ok_z1, hf⟩ := cR_some hf
      have k_z1 := okr_in ok_z1
      refine r_getr (k := 0) cls0 fi_0_0.1 fi_0_0.2 q_59 G w k_a0.1 k_a0.2 e_z1 (dcs_get dec_X0_aimHere_0 6 rfl) ?_
      refine lv_iload_n G.hx G.hb (dcs_get dec_X0_aimHere_0 7 rfl) rfl (lv_at hl 1 rfl) ?_
      refine lv_aload_n G.hx G.hb (dcs_get dec_X0_aimHere_0 8 rfl) rfl (lv_at hl 0 rfl) ?_
      refine r_geti (k := 2) cls0 fi_0_2.1 fi_0_2.2 q_61 G w k_a0.1 k_a0.2 (dcs_get dec_X0_aimHere_0 9 rfl) ?_
      obtain ⟨h2, hf⟩ := cG_some hf
      obtain ⟨σ3, e_σ3, hf⟩ := cL_some hf
      refine r_iast G w k_z1.1 k_z1.2 h2 (dcs_get dec_X0_aimHere_0 10 rfl) (fun H locs w => ?_)
      have w := Wd.nm e_σ3 w
      exact B_X0_aimHere_21  σ3 G hm  hf  w (lv_sub hl [] rfl)
end
set_option maxRecDepth 100000 in
set_option maxHeartbeats 4000000 in
theorem C_X0_aimHere {l : Launch} {D : va_G} {ay : Nat → ClassId} {ad : Nat → Nat} (hi : hInj NC ad) (a0 : Nat) (l1 : Int32) (σ : hSt) {σ0 : hSt} (hf : F_X0_aimHere a0 l1 σ = some σ0) (ok_a0 : okr kC NC 0 a0 = true) : hM l D ay kC NC ad yX0_aimHere cX0_aimHere 2 (none) (rmK 0 0) [.ref (ad a0), .int l1] σ (cV D ay kC NC ad σ0) := by
  refine hM_in (by decide) hi (Nat.le_of_ble_eq_true rfl) ?_
  intro p e s m below meth c G hm w ls hl
  exact B_X0_aimHere_0 a0 l1 σ G hm ok_a0 hf w (lv_sub hl [0, 1] rfl)

/-! HillDrums.Law.push(I)V -/
def DL_X0_push_0 : List (Nat × Instr × Nat) := [(0, .aload_n 0, 1), (1, .getfield 22, 3), (4, .ifCond .lt 32, 3), (7, .aload_n 0, 1), (8, .getfield 22, 3), (11, .bipush 32, 2), (13, .if_icmp .ge 23, 3), (16, .aload_n 0, 1), (17, .getfield 15, 3), (20, .aload_n 0, 1), (21, .getfield 22, 3), (24, .iload_n 1, 1), (25, .iastore, 1), (26, .aload_n 0, 1), (27, .dup, 1), (28, .getfield 22, 3), (31, .iconst 1, 1), (32, .iadd, 1), (33, .putfield 22, 3), (36, .return_, 1)]
set_option maxRecDepth 100000 in
theorem dec_X0_push_0 : dcs cX0_push DL_X0_push_0 = true := by decide +kernel
theorem lb_X0_push : lkB yX0_push cX0_push 2 (none) 1 := ⟨q_708, q_4, ⟨by decide, by decide⟩, by decide +kernel⟩
theorem lv_X0_push : lkV yX0_push := ⟨q_707, qs_35⟩
def F_X0_push_36  (σ : hSt) : Option (hSt) :=
some (σ)
def F_X0_push (a0 : Nat) (l1 : Int32) (σ : hSt) : Option (hSt) :=
if (σ.1 a0 3) < 0 then (
F_X0_push_36  σ) else (
if (32 : Int32) ≤ (σ.1 a0 3) then (
F_X0_push_36  σ) else (
cR (σ.2.2 a0 1) (okr kC NC 101) fun z1 =>
cG (inb (σ.1 a0 3) (kC z1).2) <|
cL (uI σ z1 (σ.1 a0 3).toNatClampNeg l1) fun σ3 =>
cL (uI σ3 a0 3 ((σ3.1 a0 3) + (1 : Int32))) fun σ4 =>
F_X0_push_36  σ4))
section
variable {p : Program} {l : Launch} {e : Env} {s : State} {m : MethodId} {args : Array Value} {below : List Frame} {meth : Method} {c : Code} {D : va_G} {ay : Nat → ClassId} {ad : Nat → Nat}
set_option maxRecDepth 100000 in
set_option maxHeartbeats 4000000 in
theorem B_X0_push_36 {H : Heap} {locs : List Loc} {ls : Array Slot} {σ0 : hSt}  (σ : hSt) (G : Gx p m c cX0_push 2 s args RX0 D ay NC ad (aN NC ad)) (hm : meth.sig.returnType = none ∧ meth.locks = false)  (hf : F_X0_push_36  σ = some σ0)  (w : Wd D ay kC NC ad (aN NC ad) s σ H locs) (hl : lv_has ls 2 []) : W p l e (rmK 0 0) s m args below meth c H locs 0 0 (MQ below (cV D ay kC NC ad σ0) args s 0 0 (aN NC ad)) (F0 m 36 ls []) := by
  unfold F_X0_push_36 at hf
  have e9 := Option.some.inj hf
  exact r_vret G w hm e9 (dcs_get dec_X0_push_0 19 rfl)
set_option maxRecDepth 100000 in
set_option maxHeartbeats 4000000 in
theorem B_X0_push_0 {H : Heap} {locs : List Loc} {ls : Array Slot} {σ0 : hSt} (a0 : Nat) (l1 : Int32) (σ : hSt) (G : Gx p m c cX0_push 2 s args RX0 D ay NC ad (aN NC ad)) (hm : meth.sig.returnType = none ∧ meth.locks = false) (ok_a0 : okr kC NC 0 a0 = true) (hf : F_X0_push a0 l1 σ = some σ0)  (w : Wd D ay kC NC ad (aN NC ad) s σ H locs) (hl : lv_has ls 2 [(0, .ref (ad a0)), (1, .int l1)]) : W p l e (rmK 0 0) s m args below meth c H locs 0 0 (MQ below (cV D ay kC NC ad σ0) args s 0 0 (aN NC ad)) (F0 m 0 ls []) := by
  have k_a0 := okr_in ok_a0
  unfold F_X0_push at hf
  refine lv_aload_n G.hx G.hb (dcs_get dec_X0_push_0 0 rfl) rfl (lv_at hl 0 rfl) ?_
  refine r_geti (k := 3) cls0 fi_0_3.1 fi_0_3.2 q_63 G w k_a0.1 k_a0.2 (dcs_get dec_X0_push_0 1 rfl) ?_
  refine lv_if_lt (tgt := 36) G.hx G.hb (dcs_get dec_X0_push_0 2 rfl) (by decide) (fun hc => ?_) (fun hc => ?_)
  · rw [if_pos hc] at hf
    exact B_X0_push_36  σ G hm  hf  w (lv_sub hl [] rfl)
  · rw [if_neg hc] at hf
    refine lv_aload_n G.hx G.hb (dcs_get dec_X0_push_0 3 rfl) rfl (lv_at hl 0 rfl) ?_
    refine r_geti (k := 3) cls0 fi_0_3.1 fi_0_3.2 q_63 G w k_a0.1 k_a0.2 (dcs_get dec_X0_push_0 4 rfl) ?_
    refine lv_bipush (v := (32 : Int32)) G.hx G.hb (dcs_get dec_X0_push_0 5 rfl) (by decide) ?_
    refine lv_icmp_ge (tgt := 36) G.hx G.hb (dcs_get dec_X0_push_0 6 rfl) (by decide) (fun hc => ?_) (fun hc => ?_)
    · rw [if_pos hc] at hf
      exact B_X0_push_36  σ G hm  hf  w (lv_sub hl [] rfl)
    · rw [if_neg hc] at hf
      refine lv_aload_n G.hx G.hb (dcs_get dec_X0_push_0 7 rfl) rfl (lv_at hl 0 rfl) ?_
      obtain ⟨z1, e_z1, ok_z1, hf⟩ := cR_some hf
      have k_z1 := okr_in ok_z1
      refine r_getr (k := 1) cls0 fi_0_1.1 fi_0_1.2 q_60 G w k_a0.1 k_a0.2 e_z1 (dcs_get dec_X0_push_0 8 rfl) ?_
      refine lv_aload_n G.hx G.hb (dcs_get dec_X0_push_0 9 rfl) rfl (lv_at hl 0 rfl) ?_
      refine r_geti (k := 3) cls0 fi_0_3.1 fi_0_3.2 q_63 G w k_a0.1 k_a0.2 (dcs_get dec_X0_push_0 10 rfl) ?_
      refine lv_iload_n G.hx G.hb (dcs_get dec_X0_push_0 11 rfl) rfl (lv_at hl 1 rfl) ?_
      obtain ⟨h2, hf⟩ := cG_some hf
      obtain ⟨σ3, e_σ3, hf⟩ := cL_some hf
      refine r_iast G w k_z1.1 k_z1.2 h2 (dcs_get dec_X0_push_0 12 rfl) (fun H locs w => ?_)
      have w := Wd.nm e_σ3 w
      refine lv_aload_n G.hx G.hb (dcs_get dec_X0_push_0 13 rfl) rfl (lv_at hl 0 rfl) ?_
      refine lv_dup G.hx G.hb (dcs_get dec_X0_push_0 14 rfl) rfl ?_
      refine r_geti (k := 3) cls0 fi_0_3.1 fi_0_3.2 q_63 G w k_a0.1 k_a0.2 (dcs_get dec_X0_push_0 15 rfl) ?_
      refine lv_iconst (v := (1 : Int32)) G.hx G.hb (dcs_get dec_X0_push_0 16 rfl) (by decide) ?_
      refine lv_iadd G.hx G.hb (dcs_get dec_X0_push_0 17 rfl) ?_
      obtain ⟨σ4, e_σ4, hf⟩ := cL_some hf
      refine r_puti (k := 3) cls0 ct0 fi_0_3.1 fi_0_3.2 fp_0_3.1 fp_0_3.2 q_63 rfl rfl G w k_a0.1 k_a0.2 (dcs_get dec_X0_push_0 18 rfl) (fun H locs w => ?_)
      have w := Wd.nm e_σ4 w
      exact B_X0_push_36  σ4 G hm  hf  w (lv_sub hl [] rfl)
end
set_option maxRecDepth 100000 in
set_option maxHeartbeats 4000000 in
theorem C_X0_push {l : Launch} {D : va_G} {ay : Nat → ClassId} {ad : Nat → Nat} (hi : hInj NC ad) (a0 : Nat) (l1 : Int32) (σ : hSt) {σ0 : hSt} (hf : F_X0_push a0 l1 σ = some σ0) (ok_a0 : okr kC NC 0 a0 = true) : hM l D ay kC NC ad yX0_push cX0_push 2 (none) (rmK 0 0) [.ref (ad a0), .int l1] σ (cV D ay kC NC ad σ0) := by
  refine hM_in (by decide) hi (Nat.le_of_ble_eq_true rfl) ?_
  intro p e s m below meth c G hm w ls hl
  exact B_X0_push_0 a0 l1 σ G hm ok_a0 hf w (lv_sub hl [0, 1] rfl)

/-! HillDrums.Law.pop()I -/
def DL_X0_pop_0 : List (Nat × Instr × Nat) := [(0, .aload_n 0, 1), (1, .getfield 22, 3), (4, .ifCond .le 12, 3), (7, .aload_n 0, 1), (8, .getfield 22, 3), (11, .bipush 32, 2), (13, .if_icmp .le 5, 3), (16, .iconst 0, 1), (17, .ireturn, 1), (18, .aload_n 0, 1), (19, .dup, 1), (20, .getfield 22, 3), (23, .iconst 1, 1), (24, .isub, 1), (25, .putfield 22, 3), (28, .aload_n 0, 1), (29, .getfield 15, 3), (32, .aload_n 0, 1), (33, .getfield 22, 3), (36, .iaload, 1), (37, .ireturn, 1)]
set_option maxRecDepth 100000 in
theorem dec_X0_pop_0 : dcs cX0_pop DL_X0_pop_0 = true := by decide +kernel
theorem lb_X0_pop : lkB yX0_pop cX0_pop 1 ((some .int)) 0 := ⟨q_712, q_4, ⟨by decide, by decide⟩, by decide +kernel⟩
theorem lv_X0_pop : lkV yX0_pop := ⟨q_711, qs_36⟩
def F_X0_pop_16  (σ : hSt) : Option (Int32 × hSt) :=
some (((0 : Int32), σ))
def F_X0_pop (a0 : Nat) (σ : hSt) : Option (Int32 × hSt) :=
if (σ.1 a0 3) ≤ 0 then (
F_X0_pop_16  σ) else (
if (σ.1 a0 3) ≤ (32 : Int32) then (
cL (uI σ a0 3 ((σ.1 a0 3) - (1 : Int32))) fun σ1 =>
cR (σ1.2.2 a0 1) (okr kC NC 101) fun z2 =>
cG (inb (σ1.1 a0 3) (kC z2).2) <|
some ((σ1.1 z2 (σ1.1 a0 3).toNatClampNeg, σ1))) else (
F_X0_pop_16  σ))
section
variable {p : Program} {l : Launch} {e : Env} {s : State} {m : MethodId} {args : Array Value} {below : List Frame} {meth : Method} {c : Code} {D : va_G} {ay : Nat → ClassId} {ad : Nat → Nat}
set_option maxRecDepth 100000 in
set_option maxHeartbeats 4000000 in
theorem B_X0_pop_16 {H : Heap} {locs : List Loc} {ls : Array Slot} {r0 : Int32} {σ0 : hSt}  (σ : hSt) (G : Gx p m c cX0_pop 1 s args RX0 D ay NC ad (aN NC ad)) (hm : meth.sig.returnType = (some .int) ∧ meth.locks = false)  (hf : F_X0_pop_16  σ = some (r0, σ0))  (w : Wd D ay kC NC ad (aN NC ad) s σ H locs) (hl : lv_has ls 1 []) : W p l e (rmK 0 0) s m args below meth c H locs 0 0 (MQ below (cI D ay kC NC ad r0 σ0) args s 0 0 (aN NC ad)) (F0 m 16 ls []) := by
  unfold F_X0_pop_16 at hf
  refine lv_iconst (v := (0 : Int32)) G.hx G.hb (dcs_get dec_X0_pop_0 7 rfl) (by decide) ?_
  have e9 := Option.some.inj hf
  exact r_iret G w hm (congrArg Prod.fst e9) (congrArg Prod.snd e9) (dcs_get dec_X0_pop_0 8 rfl)
set_option maxRecDepth 100000 in
set_option maxHeartbeats 4000000 in
theorem B_X0_pop_0 {H : Heap} {locs : List Loc} {ls : Array Slot} {r0 : Int32} {σ0 : hSt} (a0 : Nat) (σ : hSt) (G : Gx p m c cX0_pop 1 s args RX0 D ay NC ad (aN NC ad)) (hm : meth.sig.returnType = (some .int) ∧ meth.locks = false) (ok_a0 : okr kC NC 0 a0 = true) (hf : F_X0_pop a0 σ = some (r0, σ0))  (w : Wd D ay kC NC ad (aN NC ad) s σ H locs) (hl : lv_has ls 1 [(0, .ref (ad a0))]) : W p l e (rmK 0 0) s m args below meth c H locs 0 0 (MQ below (cI D ay kC NC ad r0 σ0) args s 0 0 (aN NC ad)) (F0 m 0 ls []) := by
  have k_a0 := okr_in ok_a0
  unfold F_X0_pop at hf
  refine lv_aload_n G.hx G.hb (dcs_get dec_X0_pop_0 0 rfl) rfl (lv_at hl 0 rfl) ?_
  refine r_geti (k := 3) cls0 fi_0_3.1 fi_0_3.2 q_63 G w k_a0.1 k_a0.2 (dcs_get dec_X0_pop_0 1 rfl) ?_
  refine lv_if_le (tgt := 16) G.hx G.hb (dcs_get dec_X0_pop_0 2 rfl) (by decide) (fun hc => ?_) (fun hc => ?_)
  · rw [if_pos hc] at hf
    exact B_X0_pop_16  σ G hm  hf  w (lv_sub hl [] rfl)
  · rw [if_neg hc] at hf
    refine lv_aload_n G.hx G.hb (dcs_get dec_X0_pop_0 3 rfl) rfl (lv_at hl 0 rfl) ?_
    refine r_geti (k := 3) cls0 fi_0_3.1 fi_0_3.2 q_63 G w k_a0.1 k_a0.2 (dcs_get dec_X0_pop_0 4 rfl) ?_
    refine lv_bipush (v := (32 : Int32)) G.hx G.hb (dcs_get dec_X0_pop_0 5 rfl) (by decide) ?_
    refine lv_icmp_le (tgt := 18) G.hx G.hb (dcs_get dec_X0_pop_0 6 rfl) (by decide) (fun hc => ?_) (fun hc => ?_)
    · rw [if_pos hc] at hf
      refine lv_aload_n G.hx G.hb (dcs_get dec_X0_pop_0 9 rfl) rfl (lv_at hl 0 rfl) ?_
      refine lv_dup G.hx G.hb (dcs_get dec_X0_pop_0 10 rfl) rfl ?_
      refine r_geti (k := 3) cls0 fi_0_3.1 fi_0_3.2 q_63 G w k_a0.1 k_a0.2 (dcs_get dec_X0_pop_0 11 rfl) ?_
      refine lv_iconst (v := (1 : Int32)) G.hx G.hb (dcs_get dec_X0_pop_0 12 rfl) (by decide) ?_
      refine lv_isub G.hx G.hb (dcs_get dec_X0_pop_0 13 rfl) ?_
      obtain ⟨σ1, e_σ1, hf⟩ := cL_some hf
      refine r_puti (k := 3) cls0 ct0 fi_0_3.1 fi_0_3.2 fp_0_3.1 fp_0_3.2 q_63 rfl rfl G w k_a0.1 k_a0.2 (dcs_get dec_X0_pop_0 14 rfl) (fun H locs w => ?_)
      have w := Wd.nm e_σ1 w
      refine lv_aload_n G.hx G.hb (dcs_get dec_X0_pop_0 15 rfl) rfl (lv_at hl 0 rfl) ?_
      obtain ⟨z2, e_z2, ok_z2, hf⟩ := cR_some hf
      have k_z2 := okr_in ok_z2
      refine r_getr (k := 1) cls0 fi_0_1.1 fi_0_1.2 q_60 G w k_a0.1 k_a0.2 e_z2 (dcs_get dec_X0_pop_0 16 rfl) ?_
      refine lv_aload_n G.hx G.hb (dcs_get dec_X0_pop_0 17 rfl) rfl (lv_at hl 0 rfl) ?_
      refine r_geti (k := 3) cls0 fi_0_3.1 fi_0_3.2 q_63 G w k_a0.1 k_a0.2 (dcs_get dec_X0_pop_0 18 rfl) ?_
      obtain ⟨h3, hf⟩ := cG_some hf
      refine r_iald G w k_z2.1 k_z2.2 h3 (dcs_get dec_X0_pop_0 19 rfl) ?_
      have e9 := Option.some.inj hf
      exact r_iret G w hm (congrArg Prod.fst e9) (congrArg Prod.snd e9) (dcs_get dec_X0_pop_0 20 rfl)
    · rw [if_neg hc] at hf
      exact B_X0_pop_16  σ G hm  hf  w (lv_sub hl [] rfl)
end
set_option maxRecDepth 100000 in
set_option maxHeartbeats 4000000 in
theorem C_X0_pop {l : Launch} {D : va_G} {ay : Nat → ClassId} {ad : Nat → Nat} (hi : hInj NC ad) (a0 : Nat) (σ : hSt) {r0 : Int32} {σ0 : hSt} (hf : F_X0_pop a0 σ = some (r0, σ0)) (ok_a0 : okr kC NC 0 a0 = true) : hM l D ay kC NC ad yX0_pop cX0_pop 1 ((some .int)) (rmK 0 0) [.ref (ad a0)] σ (cI D ay kC NC ad r0 σ0) := by
  refine hM_in (by decide) hi (Nat.le_of_ble_eq_true rfl) ?_
  intro p e s m below meth c G hm w ls hl
  exact B_X0_pop_0 a0 σ G hm ok_a0 hf w (lv_sub hl [0] rfl)

/-! HillDrums.Law.joined(III)I -/
def DL_X0_joined_0 : List (Nat × Instr × Nat) := [(0, .iload_n 0, 1), (1, .tableswitch 43 42 45 #[39, 31, 43, 35], 31), (32, .iload_n 1, 1), (33, .iload_n 2, 1), (34, .iadd, 1), (35, .ireturn, 1), (36, .iload_n 1, 1), (37, .iload_n 2, 1), (38, .isub, 1), (39, .ireturn, 1), (40, .iload_n 1, 1), (41, .iload_n 2, 1), (42, .imul, 1), (43, .ireturn, 1), (44, .iload_n 2, 1), (45, .ifCond .ne 7, 3), (48, .iconst 0, 1), (49, .goto 6, 3), (52, .iload_n 1, 1), (53, .iload_n 2, 1), (54, .idiv, 1), (55, .ireturn, 1)]
set_option maxRecDepth 100000 in
theorem dec_X0_joined_0 : dcs cX0_joined DL_X0_joined_0 = true := by decide +kernel
theorem lb_X0_joined : lkB yX0_joined cX0_joined 3 ((some .int)) 3 := ⟨q_715, q_4, ⟨by decide, by decide⟩, by decide +kernel⟩
def F_X0_joined_55 (s0 : Int32) (σ : hSt) : Option (Int32) :=
some (s0)
def F_X0_joined_44 (l1 : Int32) (l2 : Int32) (σ : hSt) : Option (Int32) :=
if l2 = 0 then (
F_X0_joined_55 (0 : Int32) σ) else (
cG (!decide (l2 = 0)) <|
F_X0_joined_55 (l1 / l2) σ)
def F_X0_joined (l0 : Int32) (l1 : Int32) (l2 : Int32) (σ : hSt) : Option (Int32) :=
if l0 = (42 : Int32) then (
some (l1 * l2)) else (
if l0 = (43 : Int32) then (
some (l1 + l2)) else (
if l0 = (44 : Int32) then (
F_X0_joined_44 l1 l2 σ) else (
if l0 = (45 : Int32) then (
some (l1 - l2)) else (
F_X0_joined_44 l1 l2 σ))))
section
variable {p : Program} {l : Launch} {e : Env} {s : State} {m : MethodId} {args : Array Value} {below : List Frame} {meth : Method} {c : Code} {D : va_G} {ay : Nat → ClassId} {ad : Nat → Nat}
set_option maxRecDepth 100000 in
set_option maxHeartbeats 4000000 in
theorem B_X0_joined_55 {H : Heap} {locs : List Loc} {ls : Array Slot} {r0 : Int32} (s0 : Int32) (σ : hSt) (G : Gx p m c cX0_joined 3 s args RX0 D ay NC ad (aN NC ad)) (hm : meth.sig.returnType = (some .int) ∧ meth.locks = false)  (hf : F_X0_joined_55 s0 σ = some r0)  (w : Wd D ay kC NC ad (aN NC ad) s σ H locs) (hl : lv_has ls 3 []) : W p l e (rmK 0 0) s m args below meth c H locs 0 0 (MQ below (cI D ay kC NC ad r0 σ) args s 0 0 (aN NC ad)) (F0 m 55 ls [.int s0]) := by
  unfold F_X0_joined_55 at hf
  have e9 := Option.some.inj hf
  exact r_iret G w hm e9 rfl (dcs_get dec_X0_joined_0 21 rfl)
set_option maxRecDepth 100000 in
set_option maxHeartbeats 4000000 in
theorem B_X0_joined_44 {H : Heap} {locs : List Loc} {ls : Array Slot} {r0 : Int32} (l1 : Int32) (l2 : Int32) (σ : hSt) (G : Gx p m c cX0_joined 3 s args RX0 D ay NC ad (aN NC ad)) (hm : meth.sig.returnType = (some .int) ∧ meth.locks = false)  (hf : F_X0_joined_44 l1 l2 σ = some r0)  (w : Wd D ay kC NC ad (aN NC ad) s σ H locs) (hl : lv_has ls 3 [(1, .int l1), (2, .int l2)]) : W p l e (rmK 0 0) s m args below meth c H locs 0 0 (MQ below (cI D ay kC NC ad r0 σ) args s 0 0 (aN NC ad)) (F0 m 44 ls []) := by
  unfold F_X0_joined_44 at hf
  refine lv_iload_n G.hx G.hb (dcs_get dec_X0_joined_0 14 rfl) rfl (lv_at hl 1 rfl) ?_
  refine lv_if_ne (tgt := 52) G.hx G.hb (dcs_get dec_X0_joined_0 15 rfl) (by decide) (fun hc => ?_) (fun hc => ?_)
  · rw [if_neg hc] at hf
    refine lv_iload_n G.hx G.hb (dcs_get dec_X0_joined_0 18 rfl) rfl (lv_at hl 0 rfl) ?_
    refine lv_iload_n G.hx G.hb (dcs_get dec_X0_joined_0 19 rfl) rfl (lv_at hl 1 rfl) ?_
    obtain ⟨h1, hf⟩ := cG_some hf
    refine lv_idiv G.hx G.hb (dcs_get dec_X0_joined_0 20 rfl) (by simpa using h1) ?_
    exact B_X0_joined_55 (l1 / l2) σ G hm  hf  w (lv_sub hl [] rfl)
  · rw [if_pos hc] at hf
    refine lv_iconst (v := (0 : Int32)) G.hx G.hb (dcs_get dec_X0_joined_0 16 rfl) (by decide) ?_
    refine lv_goto (tgt := 55) G.hx G.hb (dcs_get dec_X0_joined_0 17 rfl) (by decide) ?_
    exact B_X0_joined_55 (0 : Int32) σ G hm  hf  w (lv_sub hl [] rfl)
set_option maxRecDepth 100000 in
set_option maxHeartbeats 4000000 in
theorem B_X0_joined_0 {H : Heap} {locs : List Loc} {ls : Array Slot} {r0 : Int32} (l0 : Int32) (l1 : Int32) (l2 : Int32) (σ : hSt) (G : Gx p m c cX0_joined 3 s args RX0 D ay NC ad (aN NC ad)) (hm : meth.sig.returnType = (some .int) ∧ meth.locks = false)  (hf : F_X0_joined l0 l1 l2 σ = some r0)  (w : Wd D ay kC NC ad (aN NC ad) s σ H locs) (hl : lv_has ls 3 [(0, .int l0), (1, .int l1), (2, .int l2)]) : W p l e (rmK 0 0) s m args below meth c H locs 0 0 (MQ below (cI D ay kC NC ad r0 σ) args s 0 0 (aN NC ad)) (F0 m 0 ls []) := by
  unfold F_X0_joined at hf
  refine lv_iload_n G.hx G.hb (dcs_get dec_X0_joined_0 0 rfl) rfl (lv_at hl 0 rfl) ?_
  by_cases hc0 : l0 = (42 : Int32)
  · rw [if_pos hc0] at hf
    refine r_tIn (k := (42 : Int32)) (tgt := 40) G.hx G.hb (dcs_get dec_X0_joined_0 1 rfl) hc0 (by decide) rfl (by decide) ?_
    refine lv_iload_n G.hx G.hb (dcs_get dec_X0_joined_0 10 rfl) rfl (lv_at hl 1 rfl) ?_
    refine lv_iload_n G.hx G.hb (dcs_get dec_X0_joined_0 11 rfl) rfl (lv_at hl 2 rfl) ?_
    refine lv_imul G.hx G.hb (dcs_get dec_X0_joined_0 12 rfl) ?_
    have e9 := Option.some.inj hf
    exact r_iret G w hm e9 rfl (dcs_get dec_X0_joined_0 13 rfl)
  rw [if_neg hc0] at hf
  by_cases hc1 : l0 = (43 : Int32)
  · rw [if_pos hc1] at hf
    refine r_tIn (k := (43 : Int32)) (tgt := 32) G.hx G.hb (dcs_get dec_X0_joined_0 1 rfl) hc1 (by decide) rfl (by decide) ?_
    refine lv_iload_n G.hx G.hb (dcs_get dec_X0_joined_0 2 rfl) rfl (lv_at hl 1 rfl) ?_
    refine lv_iload_n G.hx G.hb (dcs_get dec_X0_joined_0 3 rfl) rfl (lv_at hl 2 rfl) ?_
    refine lv_iadd G.hx G.hb (dcs_get dec_X0_joined_0 4 rfl) ?_
    have e9 := Option.some.inj hf
    exact r_iret G w hm e9 rfl (dcs_get dec_X0_joined_0 5 rfl)
  rw [if_neg hc1] at hf
  by_cases hc2 : l0 = (44 : Int32)
  · rw [if_pos hc2] at hf
    refine r_tIn (k := (44 : Int32)) (tgt := 44) G.hx G.hb (dcs_get dec_X0_joined_0 1 rfl) hc2 (by decide) rfl (by decide) ?_
    exact B_X0_joined_44 l1 l2 σ G hm  hf  w (lv_sub hl [1, 2] rfl)
  rw [if_neg hc2] at hf
  by_cases hc3 : l0 = (45 : Int32)
  · rw [if_pos hc3] at hf
    refine r_tIn (k := (45 : Int32)) (tgt := 36) G.hx G.hb (dcs_get dec_X0_joined_0 1 rfl) hc3 (by decide) rfl (by decide) ?_
    refine lv_iload_n G.hx G.hb (dcs_get dec_X0_joined_0 6 rfl) rfl (lv_at hl 1 rfl) ?_
    refine lv_iload_n G.hx G.hb (dcs_get dec_X0_joined_0 7 rfl) rfl (lv_at hl 2 rfl) ?_
    refine lv_isub G.hx G.hb (dcs_get dec_X0_joined_0 8 rfl) ?_
    have e9 := Option.some.inj hf
    exact r_iret G w hm e9 rfl (dcs_get dec_X0_joined_0 9 rfl)
  rw [if_neg hc3] at hf
  refine lv_tableOut (tgt := 44) G.hx G.hb (dcs_get dec_X0_joined_0 1 rfl) (ts_out [(42 : Int32), (43 : Int32), (44 : Int32), (45 : Int32)] (by intro z h1 h2; simp only [List.map]; rcases (show z = 42 ∨ z = 43 ∨ z = 44 ∨ z = 45 by omega) with h4 | h4 | h4 | h4 <;> subst h4 <;> decide) (by simp only [List.forall_mem_cons]; exact ⟨hc0, hc1, hc2, hc3, fun _ h => absurd h List.not_mem_nil⟩)) (by decide) ?_
  exact B_X0_joined_44 l1 l2 σ G hm  hf  w (lv_sub hl [1, 2] rfl)
end
set_option maxRecDepth 100000 in
set_option maxHeartbeats 4000000 in
theorem C_X0_joined {l : Launch} {D : va_G} {ay : Nat → ClassId} {ad : Nat → Nat} (hi : hInj NC ad) (l0 : Int32) (l1 : Int32) (l2 : Int32) (σ : hSt) {r0 : Int32} (hf : F_X0_joined l0 l1 l2 σ = some r0)  : hM l D ay kC NC ad yX0_joined cX0_joined 3 ((some .int)) (rmK 0 0) [.int l0, .int l1, .int l2] σ (cI D ay kC NC ad r0 σ) := by
  refine hM_in (by decide) hi (Nat.le_of_ble_eq_true rfl) ?_
  intro p e s m below meth c G hm w ls hl
  exact B_X0_joined_0 l0 l1 l2 σ G hm  hf w (lv_sub hl [0, 1, 2] rfl)

/-! HillDrums.Law.value([I)I -/
def DL_X0_value_0 : List (Nat × Instr × Nat) := [(0, .aload_n 0, 1), (1, .iconst 0, 1), (2, .putfield 22, 3), (5, .iconst 0, 1), (6, .istore_n 2, 1), (7, .iconst 0, 1), (8, .istore_n 3, 1), (9, .iload_n 3, 1), (10, .aload_n 0, 1), (11, .getfield 18, 3), (14, .if_icmp .ge 174, 3), (17, .iload_n 2, 1), (18, .ifCond .lt 170, 3), (21, .iload_n 2, 1), (22, .aload_n 0, 1), (23, .getfield 18, 3), (26, .if_icmp .ge 162, 3), (29, .iload_n 2, 1), (30, .sipush 401, 3), (33, .if_icmp .ge 155, 3), (36, .aload_n 0, 1), (37, .getfield 9, 3), (40, .iload_n 2, 1), (41, .iaload, 1), (42, .istore 4, 2), (44, .iinc 2 1, 3), (47, .iload 4, 2), (49, .ifCond .lt 12, 3), (52, .aload_n 0, 1), (53, .iload 4, 2), (55, .invokevirtual 29, 3), (58, .goto 124, 3), (61, .iload 4, 2), (63, .sipush (-141), 3), (66, .if_icmp .gt 27, 3), (69, .iload 4, 2), (71, .sipush (-146), 3), (74, .if_icmp .lt 19, 3), (77, .aload_n 0, 1), (78, .aload_n 1, 1)]
set_option maxRecDepth 100000 in
theorem dec_X0_value_0 : dcs cX0_value DL_X0_value_0 = true := by decide +kernel
def DL_X0_value_1 : List (Nat × Instr × Nat) := [(79, .iload 4, 2), (81, .ineg, 1), (82, .sipush 141, 3), (85, .isub, 1), (86, .iaload, 1), (87, .invokevirtual 29, 3), (90, .goto 92, 3), (93, .iload 4, 2), (95, .bipush (-59), 2), (97, .if_icmp .ne 8, 3), (100, .aload_n 0, 1), (101, .invokevirtual 33, 3), (104, .ireturn, 1), (105, .aload_n 0, 1), (106, .invokevirtual 33, 3), (109, .istore 5, 2), (111, .aload_n 0, 1), (112, .invokevirtual 33, 3), (115, .istore 6, 2), (117, .iload 4, 2), (119, .bipush (-60), 2), (121, .if_icmp .ne 33, 3), (124, .iload 6, 2), (126, .iload 5, 2), (128, .if_icmp .lt 10, 3), (131, .iload_n 2, 1), (132, .sipush 401, 3), (135, .if_icmp .lt 9, 3), (138, .iload_n 2, 1), (139, .iconst 1, 1), (140, .iadd, 1), (141, .goto 9, 3), (144, .aload_n 0, 1), (145, .getfield 9, 3), (148, .iload_n 2, 1), (149, .iaload, 1), (150, .istore_n 2, 1), (151, .goto 31, 3), (154, .iload 4, 2), (156, .bipush (-47), 2)]
set_option maxRecDepth 100000 in
theorem dec_X0_value_1 : dcs cX0_value DL_X0_value_1 = true := by decide +kernel
def DL_X0_value_2 : List (Nat × Instr × Nat) := [(158, .if_icmp .ne 10, 3), (161, .iload 5, 2), (163, .ifCond .ne 5, 3), (166, .iconst 0, 1), (167, .ireturn, 1), (168, .aload_n 0, 1), (169, .iload 4, 2), (171, .ineg, 1), (172, .iload 6, 2), (174, .iload 5, 2), (176, .invokestatic 37, 3), (179, .invokevirtual 29, 3), (182, .iinc 3 1, 3), (185, .goto (-176), 3), (188, .iconst 0, 1), (189, .ireturn, 1)]
set_option maxRecDepth 100000 in
theorem dec_X0_value_2 : dcs cX0_value DL_X0_value_2 = true := by decide +kernel
theorem lb_X0_value : lkB yX0_value cX0_value 7 ((some .int)) 1 := ⟨q_704, q_4, ⟨by decide, by decide⟩, by decide +kernel⟩
theorem lv_X0_value : lkV yX0_value := ⟨q_703, qs_34⟩
def F_X0_value_182 (a0 : Nat) (a1 : Nat) (l2 : Int32) (l3 : Int32) (σ : hSt) : Option ((Int32 × Int32 × hSt) ⊕ (Int32 × hSt)) :=
cL (l3 + (1 : Int32)) fun v1 =>
some (.inl (l2, v1, σ))
def F_X0_value_150 (a0 : Nat) (a1 : Nat) (l3 : Int32) (s0 : Int32) (σ : hSt) : Option ((Int32 × Int32 × hSt) ⊕ (Int32 × hSt)) :=
F_X0_value_182 a0 a1 s0 l3 σ
def F_X0_value_138 (a0 : Nat) (a1 : Nat) (l2 : Int32) (l3 : Int32) (σ : hSt) : Option ((Int32 × Int32 × hSt) ⊕ (Int32 × hSt)) :=
F_X0_value_150 a0 a1 l3 (l2 + (1 : Int32)) σ
def F_X0_value_168 (a0 : Nat) (a1 : Nat) (l2 : Int32) (l3 : Int32) (l4 : Int32) (l5 : Int32) (l6 : Int32) (σ : hSt) : Option ((Int32 × Int32 × hSt) ⊕ (Int32 × hSt)) :=
(F_X0_joined (-l4) l6 l5 σ).bind fun v3 =>
(F_X0_push a0 v3 σ).bind fun σ5 =>
F_X0_value_182 a0 a1 l2 l3 σ5
def F_X0_value_93 (a0 : Nat) (a1 : Nat) (l2 : Int32) (l3 : Int32) (l4 : Int32) (σ : hSt) : Option ((Int32 × Int32 × hSt) ⊕ (Int32 × hSt)) :=
if l4 = (-59 : Int32) then (
cC (F_X0_pop a0 σ) fun v15 σ16 =>
some (.inr ((v15, σ16)))) else (
cC (F_X0_pop a0 σ) fun v7 σ8 =>
cC (F_X0_pop a0 σ8) fun v10 σ11 =>
if l4 = (-60 : Int32) then (
if v10 < v7 then (
F_X0_value_138 a0 a1 l2 l3 σ11) else (
if l2 < (401 : Int32) then (
cR (σ11.2.2 a0 0) (okr kC NC 101) fun z12 =>
cG (inb l2 (kC z12).2) <|
F_X0_value_150 a0 a1 l3 (σ11.1 z12 l2.toNatClampNeg) σ11) else (
F_X0_value_138 a0 a1 l2 l3 σ11))) else (
if l4 = (-47 : Int32) then (
if v7 = 0 then (
some (.inr (((0 : Int32), σ11)))) else (
F_X0_value_168 a0 a1 l2 l3 l4 v7 v10 σ11)) else (
F_X0_value_168 a0 a1 l2 l3 l4 v7 v10 σ11)))
def F_X0_value_188  (σ : hSt) : Option (Int32 × hSt) :=
some (((0 : Int32), σ))
def F_X0_value_9b (a0 : Nat) (a1 : Nat) (l2 : Int32) (l3 : Int32) (σ : hSt) : Option ((Int32 × Int32 × hSt) ⊕ (Int32 × hSt)) :=
if (σ.1 a0 2) ≤ l3 then (
(F_X0_value_188  σ).map (fun x => .inr (x))) else (
if l2 < 0 then (
(F_X0_value_188  σ).map (fun x => .inr (x))) else (
if (σ.1 a0 2) ≤ l2 then (
(F_X0_value_188  σ).map (fun x => .inr (x))) else (
if (401 : Int32) ≤ l2 then (
(F_X0_value_188  σ).map (fun x => .inr (x))) else (
cR (σ.2.2 a0 0) (okr kC NC 101) fun z17 =>
cG (inb l2 (kC z17).2) <|
cL (σ.1 z17 l2.toNatClampNeg) fun v19 =>
cL (l2 + (1 : Int32)) fun v20 =>
if v19 < 0 then (
if (-141 : Int32) < v19 then (
F_X0_value_93 a0 a1 v20 l3 v19 σ) else (
if v19 < (-146 : Int32) then (
F_X0_value_93 a0 a1 v20 l3 v19 σ) else (
cG (inb ((-v19) - (141 : Int32)) (kC a1).2) <|
(F_X0_push a0 (σ.1 a1 ((-v19) - (141 : Int32)).toNatClampNeg) σ).bind fun σ23 =>
F_X0_value_182 a0 a1 v20 l3 σ23))) else (
(F_X0_push a0 v19 σ).bind fun σ25 =>
F_X0_value_182 a0 a1 v20 l3 σ25)))))
def S_X0_value_9 (a0 : Nat) (a1 : Nat) (v : Int32 × Int32 × hSt) : Option ((Int32 × Int32 × hSt) ⊕ (Int32 × hSt)) := F_X0_value_9b a0 a1 v.1 v.2.1 v.2.2
def F_X0_value_9 (a0 : Nat) (a1 : Nat) (l2 : Int32) (l3 : Int32) (σ : hSt) : Option (Int32 × hSt) := lp (S_X0_value_9 a0 a1) fuel (l2, l3, σ)
def F_X0_value (a0 : Nat) (a1 : Nat) (σ : hSt) : Option (Int32 × hSt) :=
cL (uI σ a0 3 (0 : Int32)) fun σ26 =>
F_X0_value_9 a0 a1 (0 : Int32) (0 : Int32) σ26
section
variable {p : Program} {l : Launch} {e : Env} {s : State} {m : MethodId} {args : Array Value} {below : List Frame} {meth : Method} {c : Code} {D : va_G} {ay : Nat → ClassId} {ad : Nat → Nat}
set_option maxRecDepth 100000 in
set_option maxHeartbeats 4000000 in
theorem B_X0_value_182 {H : Heap} {locs : List Loc} {ls : Array Slot} {r0 : Int32} {σ0 : hSt} {o : (Int32 × Int32 × hSt) ⊕ (Int32 × hSt)} (a0 : Nat) (a1 : Nat) (l2 : Int32) (l3 : Int32) (σ : hSt) (G : Gx p m c cX0_value 7 s args RX0 D ay NC ad (aN NC ad)) (hm : meth.sig.returnType = (some .int) ∧ meth.locks = false) (ok_a0 : okr kC NC 0 a0 = true) (ok_a1 : okr kC NC 101 a1 = true) (hf : F_X0_value_182 a0 a1 l2 l3 σ = some o) (hb0 : ∀ (v : Int32 × Int32 × hSt), o = .inl v → ∀ (H : Heap) (locs : List Loc) (ls : Array Slot), Wd D ay kC NC ad (aN NC ad) s v.2.2 H locs → lv_has ls 7 [(0, .ref (ad a0)), (1, .ref (ad a1)), (2, .int v.1), (3, .int v.2.1)] → W p l e (rmK 1 22) s m args below meth c H locs 0 0 (MQ below (cI D ay kC NC ad r0 σ0) args s 0 0 (aN NC ad)) (F0 m 9 ls [])) (hr : ∀ x, o = .inr (x) → x = (r0, σ0)) (w : Wd D ay kC NC ad (aN NC ad) s σ H locs) (hl : lv_has ls 7 [(0, .ref (ad a0)), (1, .ref (ad a1)), (2, .int l2), (3, .int l3)]) : W p l e (rmK 1 22) s m args below meth c H locs 0 0 (MQ below (cI D ay kC NC ad r0 σ0) args s 0 0 (aN NC ad)) (F0 m 182 ls []) := by
  have k_a0 := okr_in ok_a0
  have k_a1 := okr_in ok_a1
  unfold F_X0_value_182 at hf
  obtain ⟨v1, e_v1, hf⟩ := cL_some hf
  refine lv_iinc (v := v1) (lv' := [(3, .int v1), (0, .ref (ad a0)), (1, .ref (ad a1)), (2, .int l2)]) G.hx G.hb (dcs_get dec_X0_value_2 12 rfl) hl (k := 3) rfl (by rw [e_v1]; rfl) (by decide) rfl (fun ls hl => ?_)
  refine lv_goto (tgt := 9) G.hx G.hb (dcs_get dec_X0_value_2 13 rfl) (by decide) ?_
  exact hb0 _ (Option.some.inj hf).symm _ _ _ w (lv_sub hl [1, 2, 3, 0] rfl)
set_option maxRecDepth 100000 in
set_option maxHeartbeats 4000000 in
theorem B_X0_value_150 {H : Heap} {locs : List Loc} {ls : Array Slot} {r0 : Int32} {σ0 : hSt} {o : (Int32 × Int32 × hSt) ⊕ (Int32 × hSt)} (a0 : Nat) (a1 : Nat) (l3 : Int32) (s0 : Int32) (σ : hSt) (G : Gx p m c cX0_value 7 s args RX0 D ay NC ad (aN NC ad)) (hm : meth.sig.returnType = (some .int) ∧ meth.locks = false) (ok_a0 : okr kC NC 0 a0 = true) (ok_a1 : okr kC NC 101 a1 = true) (hf : F_X0_value_150 a0 a1 l3 s0 σ = some o) (hb0 : ∀ (v : Int32 × Int32 × hSt), o = .inl v → ∀ (H : Heap) (locs : List Loc) (ls : Array Slot), Wd D ay kC NC ad (aN NC ad) s v.2.2 H locs → lv_has ls 7 [(0, .ref (ad a0)), (1, .ref (ad a1)), (2, .int v.1), (3, .int v.2.1)] → W p l e (rmK 1 22) s m args below meth c H locs 0 0 (MQ below (cI D ay kC NC ad r0 σ0) args s 0 0 (aN NC ad)) (F0 m 9 ls [])) (hr : ∀ x, o = .inr (x) → x = (r0, σ0)) (w : Wd D ay kC NC ad (aN NC ad) s σ H locs) (hl : lv_has ls 7 [(0, .ref (ad a0)), (1, .ref (ad a1)), (3, .int l3)]) : W p l e (rmK 1 22) s m args below meth c H locs 0 0 (MQ below (cI D ay kC NC ad r0 σ0) args s 0 0 (aN NC ad)) (F0 m 150 ls [.int s0]) := by
  have k_a0 := okr_in ok_a0
  have k_a1 := okr_in ok_a1
  unfold F_X0_value_150 at hf
  refine lv_istore_n (lv' := [(2, .int s0), (0, .ref (ad a0)), (1, .ref (ad a1)), (3, .int l3)]) G.hx G.hb (dcs_get dec_X0_value_1 36 rfl) rfl hl (by decide) rfl (fun ls hl => ?_)
  refine lv_goto (tgt := 182) G.hx G.hb (dcs_get dec_X0_value_1 37 rfl) (by decide) ?_
  exact B_X0_value_182 a0 a1 s0 l3 σ G hm ok_a0 ok_a1 hf hb0 hr w (lv_sub hl [1, 2, 0, 3] rfl)
set_option maxRecDepth 100000 in
set_option maxHeartbeats 4000000 in
theorem B_X0_value_138 {H : Heap} {locs : List Loc} {ls : Array Slot} {r0 : Int32} {σ0 : hSt} {o : (Int32 × Int32 × hSt) ⊕ (Int32 × hSt)} (a0 : Nat) (a1 : Nat) (l2 : Int32) (l3 : Int32) (σ : hSt) (G : Gx p m c cX0_value 7 s args RX0 D ay NC ad (aN NC ad)) (hm : meth.sig.returnType = (some .int) ∧ meth.locks = false) (ok_a0 : okr kC NC 0 a0 = true) (ok_a1 : okr kC NC 101 a1 = true) (hf : F_X0_value_138 a0 a1 l2 l3 σ = some o) (hb0 : ∀ (v : Int32 × Int32 × hSt), o = .inl v → ∀ (H : Heap) (locs : List Loc) (ls : Array Slot), Wd D ay kC NC ad (aN NC ad) s v.2.2 H locs → lv_has ls 7 [(0, .ref (ad a0)), (1, .ref (ad a1)), (2, .int v.1), (3, .int v.2.1)] → W p l e (rmK 1 22) s m args below meth c H locs 0 0 (MQ below (cI D ay kC NC ad r0 σ0) args s 0 0 (aN NC ad)) (F0 m 9 ls [])) (hr : ∀ x, o = .inr (x) → x = (r0, σ0)) (w : Wd D ay kC NC ad (aN NC ad) s σ H locs) (hl : lv_has ls 7 [(0, .ref (ad a0)), (1, .ref (ad a1)), (2, .int l2), (3, .int l3)]) : W p l e (rmK 1 22) s m args below meth c H locs 0 0 (MQ below (cI D ay kC NC ad r0 σ0) args s 0 0 (aN NC ad)) (F0 m 138 ls []) := by
  have k_a0 := okr_in ok_a0
  have k_a1 := okr_in ok_a1
  unfold F_X0_value_138 at hf
  refine lv_iload_n G.hx G.hb (dcs_get dec_X0_value_1 28 rfl) rfl (lv_at hl 2 rfl) ?_
  refine lv_iconst (v := (1 : Int32)) G.hx G.hb (dcs_get dec_X0_value_1 29 rfl) (by decide) ?_
  refine lv_iadd G.hx G.hb (dcs_get dec_X0_value_1 30 rfl) ?_
  refine lv_goto (tgt := 150) G.hx G.hb (dcs_get dec_X0_value_1 31 rfl) (by decide) ?_
  exact B_X0_value_150 a0 a1 l3 (l2 + (1 : Int32)) σ G hm ok_a0 ok_a1 hf hb0 hr w (lv_sub hl [0, 1, 3] rfl)
set_option maxRecDepth 100000 in
set_option maxHeartbeats 4000000 in
theorem B_X0_value_168 {H : Heap} {locs : List Loc} {ls : Array Slot} {r0 : Int32} {σ0 : hSt} {o : (Int32 × Int32 × hSt) ⊕ (Int32 × hSt)} (a0 : Nat) (a1 : Nat) (l2 : Int32) (l3 : Int32) (l4 : Int32) (l5 : Int32) (l6 : Int32) (σ : hSt) (G : Gx p m c cX0_value 7 s args RX0 D ay NC ad (aN NC ad)) (hm : meth.sig.returnType = (some .int) ∧ meth.locks = false) (ok_a0 : okr kC NC 0 a0 = true) (ok_a1 : okr kC NC 101 a1 = true) (hf : F_X0_value_168 a0 a1 l2 l3 l4 l5 l6 σ = some o) (hb0 : ∀ (v : Int32 × Int32 × hSt), o = .inl v → ∀ (H : Heap) (locs : List Loc) (ls : Array Slot), Wd D ay kC NC ad (aN NC ad) s v.2.2 H locs → lv_has ls 7 [(0, .ref (ad a0)), (1, .ref (ad a1)), (2, .int v.1), (3, .int v.2.1)] → W p l e (rmK 1 22) s m args below meth c H locs 0 0 (MQ below (cI D ay kC NC ad r0 σ0) args s 0 0 (aN NC ad)) (F0 m 9 ls [])) (hr : ∀ x, o = .inr (x) → x = (r0, σ0)) (w : Wd D ay kC NC ad (aN NC ad) s σ H locs) (hl : lv_has ls 7 [(0, .ref (ad a0)), (1, .ref (ad a1)), (2, .int l2), (3, .int l3), (4, .int l4), (5, .int l5), (6, .int l6)]) : W p l e (rmK 1 22) s m args below meth c H locs 0 0 (MQ below (cI D ay kC NC ad r0 σ0) args s 0 0 (aN NC ad)) (F0 m 168 ls []) := by
  have k_a0 := okr_in ok_a0
  have k_a1 := okr_in ok_a1
  unfold F_X0_value_168 at hf
  refine lv_aload_n G.hx G.hb (dcs_get dec_X0_value_2 5 rfl) rfl (lv_at hl 0 rfl) ?_
  refine lv_iload G.hx G.hb (dcs_get dec_X0_value_2 6 rfl) (lv_at hl 4 rfl) ?_
  refine lv_ineg G.hx G.hb (dcs_get dec_X0_value_2 7 rfl) ?_
  refine lv_iload G.hx G.hb (dcs_get dec_X0_value_2 8 rfl) (lv_at hl 6 rfl) ?_
  refine lv_iload G.hx G.hb (dcs_get dec_X0_value_2 9 rfl) (lv_at hl 5 rfl) ?_
  obtain ⟨v3, h2, hf⟩ := cB_some hf
  refine a_i (k_S (As := [.int (-l4), .int l6, .int l5]) (rest := [.ref (ad a0)]) lb_X0_joined q_714 q_713 (C_X0_joined G.2.2.1 (-l4) l6 l5 σ h2 ) ⟨(Nat.le_of_ble_eq_true rfl), (Nat.le_of_ble_eq_true rfl)⟩ G w rfl rfl hl.1 (Nat.le_of_ble_eq_true rfl) (dcs_get dec_X0_value_2 10 rfl) ⟨Nat.le_refl _, Nat.le_refl _⟩) G w (fun H locs w => ?_)
  obtain ⟨σ5, h4, hf⟩ := cB_some hf
  refine a_v (k_V (As := [.int v3]) (rest := []) cls0 lb_X0_push lv_X0_push q_705 (C_X0_push G.2.2.1 a0 v3 σ h4 ok_a0) ⟨(Nat.le_of_ble_eq_true rfl), (Nat.le_of_ble_eq_true rfl)⟩ G w k_a0.1 k_a0.2 rfl rfl hl.1 (Nat.le_of_ble_eq_true rfl) (dcs_get dec_X0_value_2 11 rfl) ⟨Nat.le_refl _, Nat.le_refl _⟩) G w (fun H locs w => ?_)
  exact B_X0_value_182 a0 a1 l2 l3 σ5 G hm ok_a0 ok_a1 hf hb0 hr w (lv_sub hl [0, 1, 2, 3] rfl)
set_option maxRecDepth 100000 in
set_option maxHeartbeats 4000000 in
theorem B_X0_value_93 {H : Heap} {locs : List Loc} {ls : Array Slot} {r0 : Int32} {σ0 : hSt} {o : (Int32 × Int32 × hSt) ⊕ (Int32 × hSt)} (a0 : Nat) (a1 : Nat) (l2 : Int32) (l3 : Int32) (l4 : Int32) (σ : hSt) (G : Gx p m c cX0_value 7 s args RX0 D ay NC ad (aN NC ad)) (hm : meth.sig.returnType = (some .int) ∧ meth.locks = false) (ok_a0 : okr kC NC 0 a0 = true) (ok_a1 : okr kC NC 101 a1 = true) (hf : F_X0_value_93 a0 a1 l2 l3 l4 σ = some o) (hb0 : ∀ (v : Int32 × Int32 × hSt), o = .inl v → ∀ (H : Heap) (locs : List Loc) (ls : Array Slot), Wd D ay kC NC ad (aN NC ad) s v.2.2 H locs → lv_has ls 7 [(0, .ref (ad a0)), (1, .ref (ad a1)), (2, .int v.1), (3, .int v.2.1)] → W p l e (rmK 1 22) s m args below meth c H locs 0 0 (MQ below (cI D ay kC NC ad r0 σ0) args s 0 0 (aN NC ad)) (F0 m 9 ls [])) (hr : ∀ x, o = .inr (x) → x = (r0, σ0)) (w : Wd D ay kC NC ad (aN NC ad) s σ H locs) (hl : lv_has ls 7 [(0, .ref (ad a0)), (1, .ref (ad a1)), (2, .int l2), (3, .int l3), (4, .int l4)]) : W p l e (rmK 1 22) s m args below meth c H locs 0 0 (MQ below (cI D ay kC NC ad r0 σ0) args s 0 0 (aN NC ad)) (F0 m 93 ls []) := by
  have k_a0 := okr_in ok_a0
  have k_a1 := okr_in ok_a1
  unfold F_X0_value_93 at hf
  refine lv_iload G.hx G.hb (dcs_get dec_X0_value_1 7 rfl) (lv_at hl 4 rfl) ?_
  refine lv_bipush (v := (-59 : Int32)) G.hx G.hb (dcs_get dec_X0_value_1 8 rfl) (by decide) ?_
  refine lv_icmp_ne (tgt := 105) G.hx G.hb (dcs_get dec_X0_value_1 9 rfl) (by decide) (fun hc => ?_) (fun hc => ?_)
  · rw [if_neg hc] at hf
    refine lv_aload_n G.hx G.hb (dcs_get dec_X0_value_1 13 rfl) rfl (lv_at hl 0 rfl) ?_
    obtain ⟨v7, σ8, h6, hf⟩ := cC_some hf
    refine a_i (k_V (As := []) (rest := []) cls0 lb_X0_pop lv_X0_pop q_709 (C_X0_pop G.2.2.1 a0 σ h6 ok_a0) ⟨(Nat.le_of_ble_eq_true rfl), (Nat.le_of_ble_eq_true rfl)⟩ G w k_a0.1 k_a0.2 rfl rfl hl.1 (Nat.le_of_ble_eq_true rfl) (dcs_get dec_X0_value_1 14 rfl) ⟨Nat.le_refl _, Nat.le_refl _⟩) G w (fun H locs w => ?_)
    refine lv_istore (lv' := [(5, .int v7), (0, .ref (ad a0)), (1, .ref (ad a1)), (2, .int l2), (3, .int l3), (4, .int l4)]) G.hx G.hb (dcs_get dec_X0_value_1 15 rfl) hl (by decide) rfl (fun ls hl => ?_)
    refine lv_aload_n G.hx G.hb (dcs_get dec_X0_value_1 16 rfl) rfl (lv_at hl 1 rfl) ?_
    obtain ⟨v10, σ11, h9, hf⟩ := cC_some hf
    refine a_i (k_V (As := []) (rest := []) cls0 lb_X0_pop lv_X0_pop q_709 (C_X0_pop G.2.2.1 a0 σ8 h9 ok_a0) ⟨(Nat.le_of_ble_eq_true rfl), (Nat.le_of_ble_eq_true rfl)⟩ G w k_a0.1 k_a0.2 rfl rfl hl.1 (Nat.le_of_ble_eq_true rfl) (dcs_get dec_X0_value_1 17 rfl) ⟨Nat.le_refl _, Nat.le_refl _⟩) G w (fun H locs w => ?_)
    refine lv_istore (lv' := [(6, .int v10), (5, .int v7), (0, .ref (ad a0)), (1, .ref (ad a1)), (2, .int l2), (3, .int l3), (4, .int l4)]) G.hx G.hb (dcs_get dec_X0_value_1 18 rfl) hl (by decide) rfl (fun ls hl => ?_)
    refine lv_iload G.hx G.hb (dcs_get dec_X0_value_1 19 rfl) (lv_at hl 6 rfl) ?_
    refine lv_bipush (v := (-60 : Int32)) G.hx G.hb (dcs_get dec_X0_value_1 20 rfl) (by decide) ?_
    refine lv_icmp_ne (tgt := 154) G.hx G.hb (dcs_get dec_X0_value_1 21 rfl) (by decide) (fun hc => ?_) (fun hc => ?_)
    · rw [if_neg hc] at hf
      refine lv_iload G.hx G.hb (dcs_get dec_X0_value_1 38 rfl) (lv_at hl 6 rfl) ?_
      refine lv_bipush (v := (-47 : Int32)) G.hx G.hb (dcs_get dec_X0_value_1 39 rfl) (by decide) ?_
      refine lv_icmp_ne (tgt := 168) G.hx G.hb (dcs_get dec_X0_value_2 0 rfl) (by decide) (fun hc => ?_) (fun hc => ?_)
      · rw [if_neg hc] at hf
        exact B_X0_value_168 a0 a1 l2 l3 l4 v7 v10 σ11 G hm ok_a0 ok_a1 hf hb0 hr w (lv_sub hl [2, 3, 4, 5, 6, 1, 0] rfl)
      · rw [if_pos hc] at hf
        refine lv_iload G.hx G.hb (dcs_get dec_X0_value_2 1 rfl) (lv_at hl 1 rfl) ?_
        refine lv_if_ne (tgt := 168) G.hx G.hb (dcs_get dec_X0_value_2 2 rfl) (by decide) (fun hc => ?_) (fun hc => ?_)
        · rw [if_neg hc] at hf
          exact B_X0_value_168 a0 a1 l2 l3 l4 v7 v10 σ11 G hm ok_a0 ok_a1 hf hb0 hr w (lv_sub hl [2, 3, 4, 5, 6, 1, 0] rfl)
        · rw [if_pos hc] at hf
          refine lv_iconst (v := (0 : Int32)) G.hx G.hb (dcs_get dec_X0_value_2 3 rfl) (by decide) ?_
          have e9 := hr _ (Option.some.inj hf).symm
          exact r_iret G w hm (congrArg Prod.fst e9) (congrArg Prod.snd e9) (dcs_get dec_X0_value_2 4 rfl)
    · rw [if_pos hc] at hf
      refine lv_iload G.hx G.hb (dcs_get dec_X0_value_1 22 rfl) (lv_at hl 0 rfl) ?_
      refine lv_iload G.hx G.hb (dcs_get dec_X0_value_1 23 rfl) (lv_at hl 1 rfl) ?_
      refine lv_icmp_lt (tgt := 138) G.hx G.hb (dcs_get dec_X0_value_1 24 rfl) (by decide) (fun hc => ?_) (fun hc => ?_)
      · rw [if_pos hc] at hf
        exact B_X0_value_138 a0 a1 l2 l3 σ11 G hm ok_a0 ok_a1 hf hb0 hr w (lv_sub hl [2, 3, 4, 5] rfl)
      · rw [if_neg hc] at hf
        refine lv_iload_n G.hx G.hb (dcs_get dec_X0_value_1 25 rfl) rfl (lv_at hl 4 rfl) ?_
        refine lv_sipush (v := (401 : Int32)) G.hx G.hb (dcs_get dec_X0_value_1 26 rfl) (by decide) ?_
        refine lv_icmp_lt (tgt := 144) G.hx G.hb (dcs_get dec_X0_value_1 27 rfl) (by decide) (fun hc => ?_) (fun hc => ?_)
        · rw [if_pos hc] at hf
          refine lv_aload_n G.hx G.hb (dcs_get dec_X0_value_1 32 rfl) rfl (lv_at hl 2 rfl) ?_
          obtain ⟨z12, e_z12, ok_z12, hf⟩ := cR_some hf
          have k_z12 := okr_in ok_z12
          refine r_getr (k := 0) cls0 fi_0_0.1 fi_0_0.2 q_59 G w k_a0.1 k_a0.2 e_z12 (dcs_get dec_X0_value_1 33 rfl) ?_
          refine lv_iload_n G.hx G.hb (dcs_get dec_X0_value_1 34 rfl) rfl (lv_at hl 4 rfl) ?_
          obtain ⟨h13, hf⟩ := cG_some hf
          refine r_iald G w k_z12.1 k_z12.2 h13 (dcs_get dec_X0_value_1 35 rfl) ?_
          exact B_X0_value_150 a0 a1 l3 (σ11.1 z12 l2.toNatClampNeg) σ11 G hm ok_a0 ok_a1 hf hb0 hr w (lv_sub hl [2, 3, 5] rfl)
        · rw [if_neg hc] at hf
          exact B_X0_value_138 a0 a1 l2 l3 σ11 G hm ok_a0 ok_a1 hf hb0 hr w (lv_sub hl [2, 3, 4, 5] rfl)
  · rw [if_pos hc] at hf
    refine lv_aload_n G.hx G.hb (dcs_get dec_X0_value_1 10 rfl) rfl (lv_at hl 0 rfl) ?_
    obtain ⟨v15, σ16, h14, hf⟩ := cC_some hf
    refine a_i (k_V (As := []) (rest := []) cls0 lb_X0_pop lv_X0_pop q_709 (C_X0_pop G.2.2.1 a0 σ h14 ok_a0) ⟨(Nat.le_of_ble_eq_true rfl), (Nat.le_of_ble_eq_true rfl)⟩ G w k_a0.1 k_a0.2 rfl rfl hl.1 (Nat.le_of_ble_eq_true rfl) (dcs_get dec_X0_value_1 11 rfl) ⟨Nat.le_refl _, Nat.le_refl _⟩) G w (fun H locs w => ?_)
    have e9 := hr _ (Option.some.inj hf).symm
    exact r_iret G w hm (congrArg Prod.fst e9) (congrArg Prod.snd e9) (dcs_get dec_X0_value_1 12 rfl)
set_option maxRecDepth 100000 in
set_option maxHeartbeats 4000000 in
theorem B_X0_value_188 {H : Heap} {locs : List Loc} {ls : Array Slot} {r0 : Int32} {σ0 : hSt}  (σ : hSt) (G : Gx p m c cX0_value 7 s args RX0 D ay NC ad (aN NC ad)) (hm : meth.sig.returnType = (some .int) ∧ meth.locks = false)  (hf : F_X0_value_188  σ = some (r0, σ0))  (w : Wd D ay kC NC ad (aN NC ad) s σ H locs) (hl : lv_has ls 7 []) : W p l e (rmK 1 22) s m args below meth c H locs 0 0 (MQ below (cI D ay kC NC ad r0 σ0) args s 0 0 (aN NC ad)) (F0 m 188 ls []) := by
  unfold F_X0_value_188 at hf
  refine lv_iconst (v := (0 : Int32)) G.hx G.hb (dcs_get dec_X0_value_2 14 rfl) (by decide) ?_
  have e9 := Option.some.inj hf
  exact r_iret G w hm (congrArg Prod.fst e9) (congrArg Prod.snd e9) (dcs_get dec_X0_value_2 15 rfl)
set_option maxRecDepth 100000 in
set_option maxHeartbeats 4000000 in
theorem B_X0_value_9b {H : Heap} {locs : List Loc} {ls : Array Slot} {r0 : Int32} {σ0 : hSt} {o : (Int32 × Int32 × hSt) ⊕ (Int32 × hSt)} (a0 : Nat) (a1 : Nat) (l2 : Int32) (l3 : Int32) (σ : hSt) (G : Gx p m c cX0_value 7 s args RX0 D ay NC ad (aN NC ad)) (hm : meth.sig.returnType = (some .int) ∧ meth.locks = false) (ok_a0 : okr kC NC 0 a0 = true) (ok_a1 : okr kC NC 101 a1 = true) (hf : F_X0_value_9b a0 a1 l2 l3 σ = some o) (hb0 : ∀ (v : Int32 × Int32 × hSt), o = .inl v → ∀ (H : Heap) (locs : List Loc) (ls : Array Slot), Wd D ay kC NC ad (aN NC ad) s v.2.2 H locs → lv_has ls 7 [(0, .ref (ad a0)), (1, .ref (ad a1)), (2, .int v.1), (3, .int v.2.1)] → W p l e (rmK 1 22) s m args below meth c H locs 0 0 (MQ below (cI D ay kC NC ad r0 σ0) args s 0 0 (aN NC ad)) (F0 m 9 ls [])) (hr : ∀ x, o = .inr (x) → x = (r0, σ0)) (w : Wd D ay kC NC ad (aN NC ad) s σ H locs) (hl : lv_has ls 7 [(0, .ref (ad a0)), (1, .ref (ad a1)), (2, .int l2), (3, .int l3)]) : W p l e (rmK 1 22) s m args below meth c H locs 0 0 (MQ below (cI D ay kC NC ad r0 σ0) args s 0 0 (aN NC ad)) (F0 m 9 ls []) := by
  have k_a0 := okr_in ok_a0
  have k_a1 := okr_in ok_a1
  unfold F_X0_value_9b at hf
  refine lv_iload_n G.hx G.hb (dcs_get dec_X0_value_0 7 rfl) rfl (lv_at hl 3 rfl) ?_
  refine lv_aload_n G.hx G.hb (dcs_get dec_X0_value_0 8 rfl) rfl (lv_at hl 0 rfl) ?_
  refine r_geti (k := 2) cls0 fi_0_2.1 fi_0_2.2 q_61 G w k_a0.1 k_a0.2 (dcs_get dec_X0_value_0 9 rfl) ?_
  refine lv_icmp_ge (tgt := 188) G.hx G.hb (dcs_get dec_X0_value_0 10 rfl) (by decide) (fun hc => ?_) (fun hc => ?_)
  · rw [if_pos hc] at hf
    obtain ⟨x9, h9, e9⟩ := map_some_inv hf
    subst e9
    have e8 := hr _ rfl
    rw [e8] at h9
    exact B_X0_value_188  σ G hm  h9 w (lv_sub hl [] rfl)
  · rw [if_neg hc] at hf
    refine lv_iload_n G.hx G.hb (dcs_get dec_X0_value_0 11 rfl) rfl (lv_at hl 2 rfl) ?_
    refine lv_if_lt (tgt := 188) G.hx G.hb (dcs_get dec_X0_value_0 12 rfl) (by decide) (fun hc => ?_) (fun hc => ?_)
    · rw [if_pos hc] at hf
      obtain ⟨x9, h9, e9⟩ := map_some_inv hf
      subst e9
      have e8 := hr _ rfl
      rw [e8] at h9
      exact B_X0_value_188  σ G hm  h9 w (lv_sub hl [] rfl)
    · rw [if_neg hc] at hf
      refine lv_iload_n G.hx G.hb (dcs_get dec_X0_value_0 13 rfl) rfl (lv_at hl 2 rfl) ?_
      refine lv_aload_n G.hx G.hb (dcs_get dec_X0_value_0 14 rfl) rfl (lv_at hl 0 rfl) ?_
      refine r_geti (k := 2) cls0 fi_0_2.1 fi_0_2.2 q_61 G w k_a0.1 k_a0.2 (dcs_get dec_X0_value_0 15 rfl) ?_
      refine lv_icmp_ge (tgt := 188) G.hx G.hb (dcs_get dec_X0_value_0 16 rfl) (by decide) (fun hc => ?_) (fun hc => ?_)
      · rw [if_pos hc] at hf
        obtain ⟨x9, h9, e9⟩ := map_some_inv hf
        subst e9
        have e8 := hr _ rfl
        rw [e8] at h9
        exact B_X0_value_188  σ G hm  h9 w (lv_sub hl [] rfl)
      · rw [if_neg hc] at hf
        refine lv_iload_n G.hx G.hb (dcs_get dec_X0_value_0 17 rfl) rfl (lv_at hl 2 rfl) ?_
        refine lv_sipush (v := (401 : Int32)) G.hx G.hb (dcs_get dec_X0_value_0 18 rfl) (by decide) ?_
        refine lv_icmp_ge (tgt := 188) G.hx G.hb (dcs_get dec_X0_value_0 19 rfl) (by decide) (fun hc => ?_) (fun hc => ?_)
        · rw [if_pos hc] at hf
          obtain ⟨x9, h9, e9⟩ := map_some_inv hf
          subst e9
          have e8 := hr _ rfl
          rw [e8] at h9
          exact B_X0_value_188  σ G hm  h9 w (lv_sub hl [] rfl)
        · rw [if_neg hc] at hf
          refine lv_aload_n G.hx G.hb (dcs_get dec_X0_value_0 20 rfl) rfl (lv_at hl 0 rfl) ?_
          obtain ⟨z17, e_z17, ok_z17, hf⟩ := cR_some hf
          have k_z17 := okr_in ok_z17
          refine r_getr (k := 0) cls0 fi_0_0.1 fi_0_0.2 q_59 G w k_a0.1 k_a0.2 e_z17 (dcs_get dec_X0_value_0 21 rfl) ?_
          refine lv_iload_n G.hx G.hb (dcs_get dec_X0_value_0 22 rfl) rfl (lv_at hl 2 rfl) ?_
          obtain ⟨h18, hf⟩ := cG_some hf
          refine r_iald G w k_z17.1 k_z17.2 h18 (dcs_get dec_X0_value_0 23 rfl) ?_
          obtain ⟨v19, e_v19, hf⟩ := cL_some hf
          refine r_topi e_v19 ?_
          refine lv_istore (lv' := [(4, .int v19), (0, .ref (ad a0)), (1, .ref (ad a1)), (2, .int l2), (3, .int l3)]) G.hx G.hb (dcs_get dec_X0_value_0 24 rfl) hl (by decide) rfl (fun ls hl => ?_)
          obtain ⟨v20, e_v20, hf⟩ := cL_some hf
          refine lv_iinc (v := v20) (lv' := [(2, .int v20), (4, .int v19), (0, .ref (ad a0)), (1, .ref (ad a1)), (3, .int l3)]) G.hx G.hb (dcs_get dec_X0_value_0 25 rfl) hl (k := 3) rfl (by rw [e_v20]; rfl) (by decide) rfl (fun ls hl => ?_)
          refine lv_iload G.hx G.hb (dcs_get dec_X0_value_0 26 rfl) (lv_at hl 1 rfl) ?_
          refine lv_if_lt (tgt := 61) G.hx G.hb (dcs_get dec_X0_value_0 27 rfl) (by decide) (fun hc => ?_) (fun hc => ?_)
          · rw [if_pos hc] at hf
            refine lv_iload G.hx G.hb (dcs_get dec_X0_value_0 32 rfl) (lv_at hl 1 rfl) ?_
            refine lv_sipush (v := (-141 : Int32)) G.hx G.hb (dcs_get dec_X0_value_0 33 rfl) (by decide) ?_
            refine lv_icmp_gt (tgt := 93) G.hx G.hb (dcs_get dec_X0_value_0 34 rfl) (by decide) (fun hc => ?_) (fun hc => ?_)
            · rw [if_pos hc] at hf
              exact B_X0_value_93 a0 a1 v20 l3 v19 σ G hm ok_a0 ok_a1 hf hb0 hr w (lv_sub hl [2, 3, 0, 4, 1] rfl)
            · rw [if_neg hc] at hf
              refine lv_iload G.hx G.hb (dcs_get dec_X0_value_0 35 rfl) (lv_at hl 1 rfl) ?_
              refine lv_sipush (v := (-146 : Int32)) G.hx G.hb (dcs_get dec_X0_value_0 36 rfl) (by decide) ?_
              refine lv_icmp_lt (tgt := 93) G.hx G.hb (dcs_get dec_X0_value_0 37 rfl) (by decide) (fun hc => ?_) (fun hc => ?_)
              · rw [if_pos hc] at hf
                exact B_X0_value_93 a0 a1 v20 l3 v19 σ G hm ok_a0 ok_a1 hf hb0 hr w (lv_sub hl [2, 3, 0, 4, 1] rfl)
              · rw [if_neg hc] at hf
                refine lv_aload_n G.hx G.hb (dcs_get dec_X0_value_0 38 rfl) rfl (lv_at hl 2 rfl) ?_
                refine lv_aload_n G.hx G.hb (dcs_get dec_X0_value_0 39 rfl) rfl (lv_at hl 3 rfl) ?_
                refine lv_iload G.hx G.hb (dcs_get dec_X0_value_1 0 rfl) (lv_at hl 1 rfl) ?_
                refine lv_ineg G.hx G.hb (dcs_get dec_X0_value_1 1 rfl) ?_
                refine lv_sipush (v := (141 : Int32)) G.hx G.hb (dcs_get dec_X0_value_1 2 rfl) (by decide) ?_
                refine lv_isub G.hx G.hb (dcs_get dec_X0_value_1 3 rfl) ?_
                obtain ⟨h21, hf⟩ := cG_some hf
                refine r_iald G w k_a1.1 k_a1.2 h21 (dcs_get dec_X0_value_1 4 rfl) ?_
                obtain ⟨σ23, h22, hf⟩ := cB_some hf
                refine a_v (k_V (As := [.int (σ.1 a1 ((-v19) - (141 : Int32)).toNatClampNeg)]) (rest := []) cls0 lb_X0_push lv_X0_push q_705 (C_X0_push G.2.2.1 a0 (σ.1 a1 ((-v19) - (141 : Int32)).toNatClampNeg) σ h22 ok_a0) ⟨(Nat.le_of_ble_eq_true rfl), (Nat.le_of_ble_eq_true rfl)⟩ G w k_a0.1 k_a0.2 rfl rfl hl.1 (Nat.le_of_ble_eq_true rfl) (dcs_get dec_X0_value_1 5 rfl) ⟨Nat.le_refl _, Nat.le_refl _⟩) G w (fun H locs w => ?_)
                refine lv_goto (tgt := 182) G.hx G.hb (dcs_get dec_X0_value_1 6 rfl) (by decide) ?_
                exact B_X0_value_182 a0 a1 v20 l3 σ23 G hm ok_a0 ok_a1 hf hb0 hr w (lv_sub hl [2, 3, 0, 4] rfl)
          · rw [if_neg hc] at hf
            refine lv_aload_n G.hx G.hb (dcs_get dec_X0_value_0 28 rfl) rfl (lv_at hl 2 rfl) ?_
            refine lv_iload G.hx G.hb (dcs_get dec_X0_value_0 29 rfl) (lv_at hl 1 rfl) ?_
            obtain ⟨σ25, h24, hf⟩ := cB_some hf
            refine a_v (k_V (As := [.int v19]) (rest := []) cls0 lb_X0_push lv_X0_push q_705 (C_X0_push G.2.2.1 a0 v19 σ h24 ok_a0) ⟨(Nat.le_of_ble_eq_true rfl), (Nat.le_of_ble_eq_true rfl)⟩ G w k_a0.1 k_a0.2 rfl rfl hl.1 (Nat.le_of_ble_eq_true rfl) (dcs_get dec_X0_value_0 30 rfl) ⟨Nat.le_refl _, Nat.le_refl _⟩) G w (fun H locs w => ?_)
            refine lv_goto (tgt := 182) G.hx G.hb (dcs_get dec_X0_value_0 31 rfl) (by decide) ?_
            exact B_X0_value_182 a0 a1 v20 l3 σ25 G hm ok_a0 ok_a1 hf hb0 hr w (lv_sub hl [2, 3, 0, 4] rfl)
set_option maxRecDepth 100000 in
set_option maxHeartbeats 4000000 in
theorem H_X0_value_9 {r0 : Int32} {σ0 : hSt} (a0 : Nat) (a1 : Nat) (G : Gx p m c cX0_value 7 s args RX0 D ay NC ad (aN NC ad)) (hm : meth.sig.returnType = (some .int) ∧ meth.locks = false) (ok_a0 : okr kC NC 0 a0 = true) (ok_a1 : okr kC NC 101 a1 = true)  : ∀ (k : Nat) (v : Int32 × Int32 × hSt), lp (S_X0_value_9 a0 a1) k v = some (r0, σ0) → ∀ (H : Heap) (locs : List Loc) (ls : Array Slot), Wd D ay kC NC ad (aN NC ad) s v.2.2 H locs → lv_has ls 7 [(0, .ref (ad a0)), (1, .ref (ad a1)), (2, .int v.1), (3, .int v.2.1)] → W p l e (rmK 1 22) s m args below meth c H locs 0 0 (MQ below (cI D ay kC NC ad r0 σ0) args s 0 0 (aN NC ad)) (F0 m 9 ls []) := by
  intro k
  induction k with
  | zero => intro v hf; cases hf
  | succ k ih =>
    intro v hf H locs ls w hl
    obtain ⟨o1, h1, h2, h3⟩ := lp_some hf
    exact B_X0_value_9b a0 a1 v.1 v.2.1 v.2.2 G hm ok_a0 ok_a1 h1  (fun v' e => ih v' (h2 v' e)) (fun x e => h3 x e) w hl
set_option maxRecDepth 100000 in
set_option maxHeartbeats 4000000 in
theorem B_X0_value_9 {H : Heap} {locs : List Loc} {ls : Array Slot} {r0 : Int32} {σ0 : hSt} (a0 : Nat) (a1 : Nat) (l2 : Int32) (l3 : Int32) (σ : hSt) (G : Gx p m c cX0_value 7 s args RX0 D ay NC ad (aN NC ad)) (hm : meth.sig.returnType = (some .int) ∧ meth.locks = false) (ok_a0 : okr kC NC 0 a0 = true) (ok_a1 : okr kC NC 101 a1 = true) (hf : F_X0_value_9 a0 a1 l2 l3 σ = some (r0, σ0))  (w : Wd D ay kC NC ad (aN NC ad) s σ H locs) (hl : lv_has ls 7 [(0, .ref (ad a0)), (1, .ref (ad a1)), (2, .int l2), (3, .int l3)]) : W p l e (rmK 1 22) s m args below meth c H locs 0 0 (MQ below (cI D ay kC NC ad r0 σ0) args s 0 0 (aN NC ad)) (F0 m 9 ls []) := by
  unfold F_X0_value_9 at hf
  exact H_X0_value_9 a0 a1  G hm ok_a0 ok_a1  fuel (l2, l3, σ) hf _ _ _ w hl
set_option maxRecDepth 100000 in
set_option maxHeartbeats 4000000 in
theorem B_X0_value_0 {H : Heap} {locs : List Loc} {ls : Array Slot} {r0 : Int32} {σ0 : hSt} (a0 : Nat) (a1 : Nat) (σ : hSt) (G : Gx p m c cX0_value 7 s args RX0 D ay NC ad (aN NC ad)) (hm : meth.sig.returnType = (some .int) ∧ meth.locks = false) (ok_a0 : okr kC NC 0 a0 = true) (ok_a1 : okr kC NC 101 a1 = true) (hf : F_X0_value a0 a1 σ = some (r0, σ0))  (w : Wd D ay kC NC ad (aN NC ad) s σ H locs) (hl : lv_has ls 7 [(0, .ref (ad a0)), (1, .ref (ad a1))]) : W p l e (rmK 1 22) s m args below meth c H locs 0 0 (MQ below (cI D ay kC NC ad r0 σ0) args s 0 0 (aN NC ad)) (F0 m 0 ls []) := by
  have k_a0 := okr_in ok_a0
  have k_a1 := okr_in ok_a1
  unfold F_X0_value at hf
  refine lv_aload_n G.hx G.hb (dcs_get dec_X0_value_0 0 rfl) rfl (lv_at hl 0 rfl) ?_
  refine lv_iconst (v := (0 : Int32)) G.hx G.hb (dcs_get dec_X0_value_0 1 rfl) (by decide) ?_
  obtain ⟨σ26, e_σ26, hf⟩ := cL_some hf
  refine r_puti (k := 3) cls0 ct0 fi_0_3.1 fi_0_3.2 fp_0_3.1 fp_0_3.2 q_63 rfl rfl G w k_a0.1 k_a0.2 (dcs_get dec_X0_value_0 2 rfl) (fun H locs w => ?_)
  have w := Wd.nm e_σ26 w
  refine lv_iconst (v := (0 : Int32)) G.hx G.hb (dcs_get dec_X0_value_0 3 rfl) (by decide) ?_
  refine lv_istore_n (lv' := [(2, .int (0 : Int32)), (0, .ref (ad a0)), (1, .ref (ad a1))]) G.hx G.hb (dcs_get dec_X0_value_0 4 rfl) rfl hl (by decide) rfl (fun ls hl => ?_)
  refine lv_iconst (v := (0 : Int32)) G.hx G.hb (dcs_get dec_X0_value_0 5 rfl) (by decide) ?_
  refine lv_istore_n (lv' := [(3, .int (0 : Int32)), (2, .int (0 : Int32)), (0, .ref (ad a0)), (1, .ref (ad a1))]) G.hx G.hb (dcs_get dec_X0_value_0 6 rfl) rfl hl (by decide) rfl (fun ls hl => ?_)
  exact B_X0_value_9 a0 a1 (0 : Int32) (0 : Int32) σ26 G hm ok_a0 ok_a1 hf  w (lv_sub hl [2, 3, 1, 0] rfl)
end
set_option maxRecDepth 100000 in
set_option maxHeartbeats 4000000 in
theorem C_X0_value {l : Launch} {D : va_G} {ay : Nat → ClassId} {ad : Nat → Nat} (hi : hInj NC ad) (a0 : Nat) (a1 : Nat) (σ : hSt) {r0 : Int32} {σ0 : hSt} (hf : F_X0_value a0 a1 σ = some (r0, σ0)) (ok_a0 : okr kC NC 0 a0 = true) (ok_a1 : okr kC NC 101 a1 = true) : hM l D ay kC NC ad yX0_value cX0_value 7 ((some .int)) (rmK 1 22) [.ref (ad a0), .ref (ad a1)] σ (cI D ay kC NC ad r0 σ0) := by
  refine hM_in (by decide) hi (Nat.le_of_ble_eq_true rfl) ?_
  intro p e s m below meth c G hm w ls hl
  exact B_X0_value_0 a0 a1 σ G hm ok_a0 ok_a1 hf w (lv_sub hl [0, 1] rfl)

/-! HillDrums.Row.on(I)I -/
def DL_X5_on_0 : List (Nat × Instr × Nat) := [(0, .aload_n 0, 1), (1, .getfield 15, 3), (4, .ifCond .le 30, 3), (7, .aload_n 0, 1), (8, .getfield 15, 3), (11, .bipush 12, 2), (13, .if_icmp .gt 21, 3), (16, .iload_n 1, 1), (17, .ifCond .lt 17, 3), (20, .aload_n 0, 1), (21, .getfield 9, 3), (24, .iload_n 1, 1), (25, .aload_n 0, 1), (26, .getfield 15, 3), (29, .irem, 1), (30, .iaload, 1), (31, .goto 4, 3), (34, .iconst 0, 1), (35, .ireturn, 1)]
set_option maxRecDepth 100000 in
theorem dec_X5_on_0 : dcs cX5_on DL_X5_on_0 = true := by decide +kernel
theorem lb_X5_on : lkB yX5_on cX5_on 2 ((some .int)) 1 := ⟨q_700, q_5, ⟨by decide, by decide⟩, by decide +kernel⟩
theorem lv_X5_on : lkV yX5_on := ⟨q_699, qs_33⟩
def F_X5_on_35 (s0 : Int32) (σ : hSt) : Option (Int32) :=
some (s0)
def F_X5_on_34  (σ : hSt) : Option (Int32) :=
F_X5_on_35 (0 : Int32) σ
def F_X5_on (a0 : Nat) (l1 : Int32) (σ : hSt) : Option (Int32) :=
if (σ.1 a0 1) ≤ 0 then (
F_X5_on_34  σ) else (
if (12 : Int32) < (σ.1 a0 1) then (
F_X5_on_34  σ) else (
if l1 < 0 then (
F_X5_on_34  σ) else (
cR (σ.2.2 a0 0) (okr kC NC 101) fun z1 =>
cG (!decide (σ.1 a0 1 = 0)) <|
cG (inb (l1 - l1 / (σ.1 a0 1) * (σ.1 a0 1)) (kC z1).2) <|
F_X5_on_35 (σ.1 z1 (l1 - l1 / (σ.1 a0 1) * (σ.1 a0 1)).toNatClampNeg) σ)))
section
variable {p : Program} {l : Launch} {e : Env} {s : State} {m : MethodId} {args : Array Value} {below : List Frame} {meth : Method} {c : Code} {D : va_G} {ay : Nat → ClassId} {ad : Nat → Nat}
set_option maxRecDepth 100000 in
set_option maxHeartbeats 4000000 in
theorem B_X5_on_35 {H : Heap} {locs : List Loc} {ls : Array Slot} {r0 : Int32} (s0 : Int32) (σ : hSt) (G : Gx p m c cX5_on 2 s args RX5 D ay NC ad (aN NC ad)) (hm : meth.sig.returnType = (some .int) ∧ meth.locks = false)  (hf : F_X5_on_35 s0 σ = some r0)  (w : Wd D ay kC NC ad (aN NC ad) s σ H locs) (hl : lv_has ls 2 []) : W p l e (rmK 0 0) s m args below meth c H locs 0 0 (MQ below (cI D ay kC NC ad r0 σ) args s 0 0 (aN NC ad)) (F0 m 35 ls [.int s0]) := by
  unfold F_X5_on_35 at hf
  have e9 := Option.some.inj hf
  exact r_iret G w hm e9 rfl (dcs_get dec_X5_on_0 18 rfl)
set_option maxRecDepth 100000 in
set_option maxHeartbeats 4000000 in
theorem B_X5_on_34 {H : Heap} {locs : List Loc} {ls : Array Slot} {r0 : Int32}  (σ : hSt) (G : Gx p m c cX5_on 2 s args RX5 D ay NC ad (aN NC ad)) (hm : meth.sig.returnType = (some .int) ∧ meth.locks = false)  (hf : F_X5_on_34  σ = some r0)  (w : Wd D ay kC NC ad (aN NC ad) s σ H locs) (hl : lv_has ls 2 []) : W p l e (rmK 0 0) s m args below meth c H locs 0 0 (MQ below (cI D ay kC NC ad r0 σ) args s 0 0 (aN NC ad)) (F0 m 34 ls []) := by
  unfold F_X5_on_34 at hf
  refine lv_iconst (v := (0 : Int32)) G.hx G.hb (dcs_get dec_X5_on_0 17 rfl) (by decide) ?_
  exact B_X5_on_35 (0 : Int32) σ G hm  hf  w (lv_sub hl [] rfl)
set_option maxRecDepth 100000 in
set_option maxHeartbeats 4000000 in
theorem B_X5_on_0 {H : Heap} {locs : List Loc} {ls : Array Slot} {r0 : Int32} (a0 : Nat) (l1 : Int32) (σ : hSt) (G : Gx p m c cX5_on 2 s args RX5 D ay NC ad (aN NC ad)) (hm : meth.sig.returnType = (some .int) ∧ meth.locks = false) (ok_a0 : okr kC NC 5 a0 = true) (hf : F_X5_on a0 l1 σ = some r0)  (w : Wd D ay kC NC ad (aN NC ad) s σ H locs) (hl : lv_has ls 2 [(0, .ref (ad a0)), (1, .int l1)]) : W p l e (rmK 0 0) s m args below meth c H locs 0 0 (MQ below (cI D ay kC NC ad r0 σ) args s 0 0 (aN NC ad)) (F0 m 0 ls []) := by
  have k_a0 := okr_in ok_a0
  unfold F_X5_on at hf
  refine lv_aload_n G.hx G.hb (dcs_get dec_X5_on_0 0 rfl) rfl (lv_at hl 0 rfl) ?_
  refine r_geti (k := 1) cls5 fi_5_1.1 fi_5_1.2 q_82 G w k_a0.1 k_a0.2 (dcs_get dec_X5_on_0 1 rfl) ?_
  refine lv_if_le (tgt := 34) G.hx G.hb (dcs_get dec_X5_on_0 2 rfl) (by decide) (fun hc => ?_) (fun hc => ?_)
  · rw [if_pos hc] at hf
    exact B_X5_on_34  σ G hm  hf  w (lv_sub hl [] rfl)
  · rw [if_neg hc] at hf
    refine lv_aload_n G.hx G.hb (dcs_get dec_X5_on_0 3 rfl) rfl (lv_at hl 0 rfl) ?_
    refine r_geti (k := 1) cls5 fi_5_1.1 fi_5_1.2 q_82 G w k_a0.1 k_a0.2 (dcs_get dec_X5_on_0 4 rfl) ?_
    refine lv_bipush (v := (12 : Int32)) G.hx G.hb (dcs_get dec_X5_on_0 5 rfl) (by decide) ?_
    refine lv_icmp_gt (tgt := 34) G.hx G.hb (dcs_get dec_X5_on_0 6 rfl) (by decide) (fun hc => ?_) (fun hc => ?_)
    · rw [if_pos hc] at hf
      exact B_X5_on_34  σ G hm  hf  w (lv_sub hl [] rfl)
    · rw [if_neg hc] at hf
      refine lv_iload_n G.hx G.hb (dcs_get dec_X5_on_0 7 rfl) rfl (lv_at hl 1 rfl) ?_
      refine lv_if_lt (tgt := 34) G.hx G.hb (dcs_get dec_X5_on_0 8 rfl) (by decide) (fun hc => ?_) (fun hc => ?_)
      · rw [if_pos hc] at hf
        exact B_X5_on_34  σ G hm  hf  w (lv_sub hl [] rfl)
      · rw [if_neg hc] at hf
        refine lv_aload_n G.hx G.hb (dcs_get dec_X5_on_0 9 rfl) rfl (lv_at hl 0 rfl) ?_
        obtain ⟨z1, e_z1, ok_z1, hf⟩ := cR_some hf
        have k_z1 := okr_in ok_z1
        refine r_getr (k := 0) cls5 fi_5_0.1 fi_5_0.2 q_80 G w k_a0.1 k_a0.2 e_z1 (dcs_get dec_X5_on_0 10 rfl) ?_
        refine lv_iload_n G.hx G.hb (dcs_get dec_X5_on_0 11 rfl) rfl (lv_at hl 1 rfl) ?_
        refine lv_aload_n G.hx G.hb (dcs_get dec_X5_on_0 12 rfl) rfl (lv_at hl 0 rfl) ?_
        refine r_geti (k := 1) cls5 fi_5_1.1 fi_5_1.2 q_82 G w k_a0.1 k_a0.2 (dcs_get dec_X5_on_0 13 rfl) ?_
        obtain ⟨h2, hf⟩ := cG_some hf
        refine lv_irem G.hx G.hb (dcs_get dec_X5_on_0 14 rfl) (by simpa using h2) ?_
        obtain ⟨h3, hf⟩ := cG_some hf
        refine r_iald G w k_z1.1 k_z1.2 h3 (dcs_get dec_X5_on_0 15 rfl) ?_
        refine lv_goto (tgt := 35) G.hx G.hb (dcs_get dec_X5_on_0 16 rfl) (by decide) ?_
        exact B_X5_on_35 (σ.1 z1 (l1 - l1 / (σ.1 a0 1) * (σ.1 a0 1)).toNatClampNeg) σ G hm  hf  w (lv_sub hl [] rfl)
end
set_option maxRecDepth 100000 in
set_option maxHeartbeats 4000000 in
theorem C_X5_on {l : Launch} {D : va_G} {ay : Nat → ClassId} {ad : Nat → Nat} (hi : hInj NC ad) (a0 : Nat) (l1 : Int32) (σ : hSt) {r0 : Int32} (hf : F_X5_on a0 l1 σ = some r0) (ok_a0 : okr kC NC 5 a0 = true) : hM l D ay kC NC ad yX5_on cX5_on 2 ((some .int)) (rmK 0 0) [.ref (ad a0), .int l1] σ (cI D ay kC NC ad r0 σ) := by
  refine hM_in (by decide) hi (Nat.le_of_ble_eq_true rfl) ?_
  intro p e s m below meth c G hm w ls hl
  exact B_X5_on_0 a0 l1 σ G hm ok_a0 hf w (lv_sub hl [0, 1] rfl)
