/-! HillDrums.Text.lawTells(III)Z -/
def DL_X7_lawTells_0 : List (Nat × Instr × Nat) := [(0, .aload_n 0, 1), (1, .getfield 60, 3), (4, .iconst 0, 1), (5, .aload_n 0, 1), (6, .getfield 15, 3), (9, .iload_n 1, 1), (10, .iaload, 1), (11, .aload_n 0, 1), (12, .getfield 15, 3), (15, .iload_n 2, 1), (16, .iaload, 1), (17, .isub, 1), (18, .invokestatic 82, 3), (21, .aload_n 0, 1), (22, .getfield 19, 3), (25, .iload_n 1, 1), (26, .iaload, 1), (27, .aload_n 0, 1), (28, .getfield 19, 3), (31, .iload_n 2, 1), (32, .iaload, 1), (33, .isub, 1), (34, .invokestatic 82, 3), (37, .iadd, 1), (38, .iastore, 1), (39, .aload_n 0, 1), (40, .getfield 60, 3), (43, .iconst 1, 1), (44, .aload_n 0, 1), (45, .getfield 38, 3), (48, .iload_n 3, 1), (49, .invokevirtual 88, 3), (52, .iastore, 1), (53, .aload_n 0, 1), (54, .getfield 60, 3), (57, .iconst 2, 1), (58, .aload_n 0, 1), (59, .getfield 42, 3), (62, .iload_n 3, 1), (63, .invokevirtual 88, 3)]
set_option maxRecDepth 100000 in
theorem dec_X7_lawTells_0 : dcs cX7_lawTells DL_X7_lawTells_0 = true := by decide +kernel
def DL_X7_lawTells_1 : List (Nat × Instr × Nat) := [(66, .iastore, 1), (67, .aload_n 0, 1), (68, .getfield 60, 3), (71, .iconst 3, 1), (72, .iload_n 3, 1), (73, .iastore, 1), (74, .aload_n 0, 1), (75, .getfield 60, 3), (78, .iconst 4, 1), (79, .iload_n 1, 1), (80, .iastore, 1), (81, .aload_n 0, 1), (82, .getfield 60, 3), (85, .iconst 5, 1), (86, .iload_n 2, 1), (87, .iastore, 1), (88, .aload_n 0, 1), (89, .getfield 31, 3), (92, .aload_n 0, 1), (93, .getfield 60, 3), (96, .invokevirtual 91, 3), (99, .ifCond .le 7, 3), (102, .iconst 1, 1), (103, .goto 4, 3), (106, .iconst 0, 1), (107, .ireturn, 1)]
set_option maxRecDepth 100000 in
theorem dec_X7_lawTells_1 : dcs cX7_lawTells DL_X7_lawTells_1 = true := by decide +kernel
theorem lb_X7_lawTells : lkB yX7_lawTells cX7_lawTells 4 ((some .boolean)) 3 := ⟨q_693, q_3, ⟨by decide, by decide⟩, by decide +kernel⟩
theorem lv_X7_lawTells : lkV yX7_lawTells := ⟨q_692, qs_32⟩
def F_X7_lawTells_107 (s0 : Int32) (σ : hSt) : Option (Int32 × hSt) :=
cG (isB s0) <|
some ((s0, σ))
def F_X7_lawTells (a0 : Nat) (l1 : Int32) (l2 : Int32) (l3 : Int32) (σ : hSt) : Option (Int32 × hSt) :=
cR (σ.2.2 a0 13) (okr kC NC 101) fun z2 =>
cR (σ.2.2 a0 1) (okr kC NC 101) fun z3 =>
cG (inb l1 (kC z3).2) <|
cR (σ.2.2 a0 1) (okr kC NC 101) fun z5 =>
cG (inb l2 (kC z5).2) <|
cR (σ.2.2 a0 2) (okr kC NC 101) fun z7 =>
cG (inb l1 (kC z7).2) <|
cR (σ.2.2 a0 2) (okr kC NC 101) fun z9 =>
cG (inb l2 (kC z9).2) <|
cG (inb (0 : Int32) (kC z2).2) <|
cL (uI σ z2 (0 : Int32).toNatClampNeg ((if 0 ≤ ((σ.1 z3 l1.toNatClampNeg) - (σ.1 z5 l2.toNatClampNeg)) then ((σ.1 z3 l1.toNatClampNeg) - (σ.1 z5 l2.toNatClampNeg)) else 0 - ((σ.1 z3 l1.toNatClampNeg) - (σ.1 z5 l2.toNatClampNeg))) + (if 0 ≤ ((σ.1 z7 l1.toNatClampNeg) - (σ.1 z9 l2.toNatClampNeg)) then ((σ.1 z7 l1.toNatClampNeg) - (σ.1 z9 l2.toNatClampNeg)) else 0 - ((σ.1 z7 l1.toNatClampNeg) - (σ.1 z9 l2.toNatClampNeg))))) fun σ12 =>
cR (σ12.2.2 a0 13) (okr kC NC 101) fun z13 =>
cR (σ12.2.2 a0 6) (okr kC NC 5) fun z14 =>
(F_X5_on z14 l3 σ12).bind fun v16 =>
cG (inb (1 : Int32) (kC z13).2) <|
cL (uI σ12 z13 (1 : Int32).toNatClampNeg v16) fun σ18 =>
cR (σ18.2.2 a0 13) (okr kC NC 101) fun z19 =>
cR (σ18.2.2 a0 7) (okr kC NC 5) fun z20 =>
(F_X5_on z20 l3 σ18).bind fun v22 =>
cG (inb (2 : Int32) (kC z19).2) <|
cL (uI σ18 z19 (2 : Int32).toNatClampNeg v22) fun σ24 =>
cR (σ24.2.2 a0 13) (okr kC NC 101) fun z25 =>
cG (inb (3 : Int32) (kC z25).2) <|
cL (uI σ24 z25 (3 : Int32).toNatClampNeg l3) fun σ27 =>
cR (σ27.2.2 a0 13) (okr kC NC 101) fun z28 =>
cG (inb (4 : Int32) (kC z28).2) <|
cL (uI σ27 z28 (4 : Int32).toNatClampNeg l1) fun σ30 =>
cR (σ30.2.2 a0 13) (okr kC NC 101) fun z31 =>
cG (inb (5 : Int32) (kC z31).2) <|
cL (uI σ30 z31 (5 : Int32).toNatClampNeg l2) fun σ33 =>
cR (σ33.2.2 a0 5) (okr kC NC 0) fun z34 =>
cR (σ33.2.2 a0 13) (okr kC NC 101) fun z35 =>
cC (F_X0_value z34 z35 σ33) fun v37 σ38 =>
if v37 ≤ 0 then (
F_X7_lawTells_107 (0 : Int32) σ38) else (
F_X7_lawTells_107 (1 : Int32) σ38)
section
variable {p : Program} {l : Launch} {e : Env} {s : State} {m : MethodId} {args : Array Value} {below : List Frame} {meth : Method} {c : Code} {D : va_G} {ay : Nat → ClassId} {ad : Nat → Nat}
set_option maxRecDepth 100000 in
set_option maxHeartbeats 4000000 in
theorem B_X7_lawTells_107 {H : Heap} {locs : List Loc} {ls : Array Slot} {r0 : Int32} {σ0 : hSt} (s0 : Int32) (σ : hSt) (G : Gx p m c cX7_lawTells 4 s args RX7 D ay NC ad (aN NC ad)) (hm : meth.sig.returnType = (some .boolean) ∧ meth.locks = false)  (hf : F_X7_lawTells_107 s0 σ = some (r0, σ0))  (w : Wd D ay kC NC ad (aN NC ad) s σ H locs) (hl : lv_has ls 4 []) : W p l e (rmK 2 48) s m args below meth c H locs 0 0 (MQ below (cI D ay kC NC ad r0 σ0) args s 0 0 (aN NC ad)) (F0 m 107 ls [.int s0]) := by
  unfold F_X7_lawTells_107 at hf
  obtain ⟨h1, hf⟩ := cG_some hf
  have e9 := Option.some.inj hf
  exact r_zret (isB_nar h1) G w hm (congrArg Prod.fst e9) (congrArg Prod.snd e9) (dcs_get dec_X7_lawTells_1 25 rfl)
set_option maxRecDepth 100000 in
set_option maxHeartbeats 4000000 in
theorem B_X7_lawTells_0 {H : Heap} {locs : List Loc} {ls : Array Slot} {r0 : Int32} {σ0 : hSt} (a0 : Nat) (l1 : Int32) (l2 : Int32) (l3 : Int32) (σ : hSt) (G : Gx p m c cX7_lawTells 4 s args RX7 D ay NC ad (aN NC ad)) (hm : meth.sig.returnType = (some .boolean) ∧ meth.locks = false) (ok_a0 : okr kC NC 7 a0 = true) (hf : F_X7_lawTells a0 l1 l2 l3 σ = some (r0, σ0))  (w : Wd D ay kC NC ad (aN NC ad) s σ H locs) (hl : lv_has ls 4 [(0, .ref (ad a0)), (1, .int l1), (2, .int l2), (3, .int l3)]) : W p l e (rmK 2 48) s m args below meth c H locs 0 0 (MQ below (cI D ay kC NC ad r0 σ0) args s 0 0 (aN NC ad)) (F0 m 0 ls []) := by
  have k_a0 := okr_in ok_a0
  unfold F_X7_lawTells at hf
  refine lv_aload_n G.hx G.hb (dcs_get dec_X7_lawTells_0 0 rfl) rfl (lv_at hl 0 rfl) ?_
  obtain ⟨z2, e_z2, ok_z2, hf⟩ := cR_some hf
  have k_z2 := okr_in ok_z2
  refine r_getr (k := 13) cls7 fi_7_13.1 fi_7_13.2 q_135 G w k_a0.1 k_a0.2 e_z2 (dcs_get dec_X7_lawTells_0 1 rfl) ?_
  refine lv_iconst (v := (0 : Int32)) G.hx G.hb (dcs_get dec_X7_lawTells_0 2 rfl) (by decide) ?_
  refine lv_aload_n G.hx G.hb (dcs_get dec_X7_lawTells_0 3 rfl) rfl (lv_at hl 0 rfl) ?_
  obtain ⟨z3, e_z3, ok_z3, hf⟩ := cR_some hf
  have k_z3 := okr_in ok_z3
  refine r_getr (k := 1) cls7 fi_7_1.1 fi_7_1.2 q_97 G w k_a0.1 k_a0.2 e_z3 (dcs_get dec_X7_lawTells_0 4 rfl) ?_
  refine lv_iload_n G.hx G.hb (dcs_get dec_X7_lawTells_0 5 rfl) rfl (lv_at hl 1 rfl) ?_
  obtain ⟨h4, hf⟩ := cG_some hf
  refine r_iald G w k_z3.1 k_z3.2 h4 (dcs_get dec_X7_lawTells_0 6 rfl) ?_
  refine lv_aload_n G.hx G.hb (dcs_get dec_X7_lawTells_0 7 rfl) rfl (lv_at hl 0 rfl) ?_
  obtain ⟨z5, e_z5, ok_z5, hf⟩ := cR_some hf
  have k_z5 := okr_in ok_z5
  refine r_getr (k := 1) cls7 fi_7_1.1 fi_7_1.2 q_97 G w k_a0.1 k_a0.2 e_z5 (dcs_get dec_X7_lawTells_0 8 rfl) ?_
  refine lv_iload_n G.hx G.hb (dcs_get dec_X7_lawTells_0 9 rfl) rfl (lv_at hl 2 rfl) ?_
  obtain ⟨h6, hf⟩ := cG_some hf
  refine r_iald G w k_z5.1 k_z5.2 h6 (dcs_get dec_X7_lawTells_0 10 rfl) ?_
  refine lv_isub G.hx G.hb (dcs_get dec_X7_lawTells_0 11 rfl) ?_
  refine r_abs q_694 q_695 q_19 q_696 ⟨(Nat.le_of_ble_eq_true rfl), (Nat.le_of_ble_eq_true rfl)⟩ ⟨Nat.le_refl _, Nat.le_refl _⟩ G hl.1 (dcs_get dec_X7_lawTells_0 12 rfl) ?_
  refine lv_aload_n G.hx G.hb (dcs_get dec_X7_lawTells_0 13 rfl) rfl (lv_at hl 0 rfl) ?_
  obtain ⟨z7, e_z7, ok_z7, hf⟩ := cR_some hf
  have k_z7 := okr_in ok_z7
  refine r_getr (k := 2) cls7 fi_7_2.1 fi_7_2.2 q_99 G w k_a0.1 k_a0.2 e_z7 (dcs_get dec_X7_lawTells_0 14 rfl) ?_
  refine lv_iload_n G.hx G.hb (dcs_get dec_X7_lawTells_0 15 rfl) rfl (lv_at hl 1 rfl) ?_
  obtain ⟨h8, hf⟩ := cG_some hf
  refine r_iald G w k_z7.1 k_z7.2 h8 (dcs_get dec_X7_lawTells_0 16 rfl) ?_
  refine lv_aload_n G.hx G.hb (dcs_get dec_X7_lawTells_0 17 rfl) rfl (lv_at hl 0 rfl) ?_
  obtain ⟨z9, e_z9, ok_z9, hf⟩ := cR_some hf
  have k_z9 := okr_in ok_z9
  refine r_getr (k := 2) cls7 fi_7_2.1 fi_7_2.2 q_99 G w k_a0.1 k_a0.2 e_z9 (dcs_get dec_X7_lawTells_0 18 rfl) ?_
  refine lv_iload_n G.hx G.hb (dcs_get dec_X7_lawTells_0 19 rfl) rfl (lv_at hl 2 rfl) ?_
  obtain ⟨h10, hf⟩ := cG_some hf
  refine r_iald G w k_z9.1 k_z9.2 h10 (dcs_get dec_X7_lawTells_0 20 rfl) ?_
  refine lv_isub G.hx G.hb (dcs_get dec_X7_lawTells_0 21 rfl) ?_
  refine r_abs q_694 q_695 q_19 q_696 ⟨(Nat.le_of_ble_eq_true rfl), (Nat.le_of_ble_eq_true rfl)⟩ ⟨Nat.le_refl _, Nat.le_refl _⟩ G hl.1 (dcs_get dec_X7_lawTells_0 22 rfl) ?_
  refine lv_iadd G.hx G.hb (dcs_get dec_X7_lawTells_0 23 rfl) ?_
  obtain ⟨h11, hf⟩ := cG_some hf
  obtain ⟨σ12, e_σ12, hf⟩ := cL_some hf
  refine r_iast G w k_z2.1 k_z2.2 h11 (dcs_get dec_X7_lawTells_0 24 rfl) (fun H locs w => ?_)
  have w := Wd.nm e_σ12 w
  refine lv_aload_n G.hx G.hb (dcs_get dec_X7_lawTells_0 25 rfl) rfl (lv_at hl 0 rfl) ?_
  obtain ⟨z13, e_z13, ok_z13, hf⟩ := cR_some hf
  have k_z13 := okr_in ok_z13
  refine r_getr (k := 13) cls7 fi_7_13.1 fi_7_13.2 q_135 G w k_a0.1 k_a0.2 e_z13 (dcs_get dec_X7_lawTells_0 26 rfl) ?_
  refine lv_iconst (v := (1 : Int32)) G.hx G.hb (dcs_get dec_X7_lawTells_0 27 rfl) (by decide) ?_
  refine lv_aload_n G.hx G.hb (dcs_get dec_X7_lawTells_0 28 rfl) rfl (lv_at hl 0 rfl) ?_
  obtain ⟨z14, e_z14, ok_z14, hf⟩ := cR_some hf
  have k_z14 := okr_in ok_z14
  refine r_getr (k := 6) cls7 fi_7_6.1 fi_7_6.2 q_111 G w k_a0.1 k_a0.2 e_z14 (dcs_get dec_X7_lawTells_0 29 rfl) ?_
  refine lv_iload_n G.hx G.hb (dcs_get dec_X7_lawTells_0 30 rfl) rfl (lv_at hl 3 rfl) ?_
  obtain ⟨v16, h15, hf⟩ := cB_some hf
  refine a_i (k_VN (As := [.int l3]) (rest := [.int (1 : Int32), .ref (ad z13)]) cls5 lb_X5_on lv_X5_on nm_697 (C_X5_on G.2.2.1 z14 l3 σ12 h15 ok_z14) ⟨(Nat.le_of_ble_eq_true rfl), (Nat.le_of_ble_eq_true rfl)⟩ G w k_z14.1 k_z14.2 rfl rfl hl.1 (Nat.le_of_ble_eq_true rfl) (dcs_get dec_X7_lawTells_0 31 rfl) ⟨Nat.le_refl _, Nat.le_refl _⟩) G w (fun H locs w => ?_)
  obtain ⟨h17, hf⟩ := cG_some hf
  obtain ⟨σ18, e_σ18, hf⟩ := cL_some hf
  refine r_iast G w k_z13.1 k_z13.2 h17 (dcs_get dec_X7_lawTells_0 32 rfl) (fun H locs w => ?_)
  have w := Wd.nm e_σ18 w
  refine lv_aload_n G.hx G.hb (dcs_get dec_X7_lawTells_0 33 rfl) rfl (lv_at hl 0 rfl) ?_
  obtain ⟨z19, e_z19, ok_z19, hf⟩ := cR_some hf
  have k_z19 := okr_in ok_z19
  refine r_getr (k := 13) cls7 fi_7_13.1 fi_7_13.2 q_135 G w k_a0.1 k_a0.2 e_z19 (dcs_get dec_X7_lawTells_0 34 rfl) ?_
  refine lv_iconst (v := (2 : Int32)) G.hx G.hb (dcs_get dec_X7_lawTells_0 35 rfl) (by decide) ?_
  refine lv_aload_n G.hx G.hb (dcs_get dec_X7_lawTells_0 36 rfl) rfl (lv_at hl 0 rfl) ?_
  obtain ⟨z20, e_z20, ok_z20, hf⟩ := cR_some hf
  have k_z20 := okr_in ok_z20
  refine r_getr (k := 7) cls7 fi_7_7.1 fi_7_7.2 q_114 G w k_a0.1 k_a0.2 e_z20 (dcs_get dec_X7_lawTells_0 37 rfl) ?_
  refine lv_iload_n G.hx G.hb (dcs_get dec_X7_lawTells_0 38 rfl) rfl (lv_at hl 3 rfl) ?_
  obtain ⟨v22, h21, hf⟩ := cB_some hf
  refine a_i (k_VN (As := [.int l3]) (rest := [.int (2 : Int32), .ref (ad z19)]) cls5 lb_X5_on lv_X5_on nm_697 (C_X5_on G.2.2.1 z20 l3 σ18 h21 ok_z20) ⟨(Nat.le_of_ble_eq_true rfl), (Nat.le_of_ble_eq_true rfl)⟩ G w k_z20.1 k_z20.2 rfl rfl hl.1 (Nat.le_of_ble_eq_true rfl) (dcs_get dec_X7_lawTells_0 39 rfl) ⟨Nat.le_refl _, Nat.le_refl _⟩) G w (fun H locs w => ?_)
  obtain ⟨h23, hf⟩ := cG_some hf
  obtain ⟨σ24, e_σ24, hf⟩ := cL_some hf
  refine r_iast G w k_z19.1 k_z19.2 h23 (dcs_get dec_X7_lawTells_1 0 rfl) (fun H locs w => ?_)
  have w := Wd.nm e_σ24 w
  refine lv_aload_n G.hx G.hb (dcs_get dec_X7_lawTells_1 1 rfl) rfl (lv_at hl 0 rfl) ?_
  obtain ⟨z25, e_z25, ok_z25, hf⟩ := cR_some hf
  have k_z25 := okr_in ok_z25
  refine r_getr (k := 13) cls7 fi_7_13.1 fi_7_13.2 q_135 G w k_a0.1 k_a0.2 e_z25 (dcs_get dec_X7_lawTells_1 2 rfl) ?_
  refine lv_iconst (v := (3 : Int32)) G.hx G.hb (dcs_get dec_X7_lawTells_1 3 rfl) (by decide) ?_
  refine lv_iload_n G.hx G.hb (dcs_get dec_X7_lawTells_1 4 rfl) rfl (lv_at hl 3 rfl) ?_
  obtain ⟨h26, hf⟩ := cG_some hf
  obtain ⟨σ27, e_σ27, hf⟩ := cL_some hf
  refine r_iast G w k_z25.1 k_z25.2 h26 (dcs_get dec_X7_lawTells_1 5 rfl) (fun H locs w => ?_)
  have w := Wd.nm e_σ27 w
  refine lv_aload_n G.hx G.hb (dcs_get dec_X7_lawTells_1 6 rfl) rfl (lv_at hl 0 rfl) ?_
  obtain ⟨z28, e_z28, ok_z28, hf⟩ := cR_some hf
  have k_z28 := okr_in ok_z28
  refine r_getr (k := 13) cls7 fi_7_13.1 fi_7_13.2 q_135 G w k_a0.1 k_a0.2 e_z28 (dcs_get dec_X7_lawTells_1 7 rfl) ?_
  refine lv_iconst (v := (4 : Int32)) G.hx G.hb (dcs_get dec_X7_lawTells_1 8 rfl) (by decide) ?_
  refine lv_iload_n G.hx G.hb (dcs_get dec_X7_lawTells_1 9 rfl) rfl (lv_at hl 1 rfl) ?_
  obtain ⟨h29, hf⟩ := cG_some hf
  obtain ⟨σ30, e_σ30, hf⟩ := cL_some hf
  refine r_iast G w k_z28.1 k_z28.2 h29 (dcs_get dec_X7_lawTells_1 10 rfl) (fun H locs w => ?_)
  have w := Wd.nm e_σ30 w
  refine lv_aload_n G.hx G.hb (dcs_get dec_X7_lawTells_1 11 rfl) rfl (lv_at hl 0 rfl) ?_
  obtain ⟨z31, e_z31, ok_z31, hf⟩ := cR_some hf
  have k_z31 := okr_in ok_z31
  refine r_getr (k := 13) cls7 fi_7_13.1 fi_7_13.2 q_135 G w k_a0.1 k_a0.2 e_z31 (dcs_get dec_X7_lawTells_1 12 rfl) ?_
  refine lv_iconst (v := (5 : Int32)) G.hx G.hb (dcs_get dec_X7_lawTells_1 13 rfl) (by decide) ?_
  refine lv_iload_n G.hx G.hb (dcs_get dec_X7_lawTells_1 14 rfl) rfl (lv_at hl 2 rfl) ?_
  obtain ⟨h32, hf⟩ := cG_some hf
  obtain ⟨σ33, e_σ33, hf⟩ := cL_some hf
  refine r_iast G w k_z31.1 k_z31.2 h32 (dcs_get dec_X7_lawTells_1 15 rfl) (fun H locs w => ?_)
  have w := Wd.nm e_σ33 w
  refine lv_aload_n G.hx G.hb (dcs_get dec_X7_lawTells_1 16 rfl) rfl (lv_at hl 0 rfl) ?_
  obtain ⟨z34, e_z34, ok_z34, hf⟩ := cR_some hf
  have k_z34 := okr_in ok_z34
  refine r_getr (k := 5) cls7 fi_7_5.1 fi_7_5.2 q_109 G w k_a0.1 k_a0.2 e_z34 (dcs_get dec_X7_lawTells_1 17 rfl) ?_
  refine lv_aload_n G.hx G.hb (dcs_get dec_X7_lawTells_1 18 rfl) rfl (lv_at hl 0 rfl) ?_
  obtain ⟨z35, e_z35, ok_z35, hf⟩ := cR_some hf
  have k_z35 := okr_in ok_z35
  refine r_getr (k := 13) cls7 fi_7_13.1 fi_7_13.2 q_135 G w k_a0.1 k_a0.2 e_z35 (dcs_get dec_X7_lawTells_1 19 rfl) ?_
  obtain ⟨v37, σ38, h36, hf⟩ := cC_some hf
  refine a_i (k_VN (As := [.ref (ad z35)]) (rest := []) cls0 lb_X0_value lv_X0_value nm_701 (C_X0_value G.2.2.1 z34 z35 σ33 h36 ok_z34 ok_z35) ⟨(Nat.le_of_ble_eq_true rfl), (Nat.le_of_ble_eq_true rfl)⟩ G w k_z34.1 k_z34.2 rfl rfl hl.1 (Nat.le_of_ble_eq_true rfl) (dcs_get dec_X7_lawTells_1 20 rfl) ⟨Nat.le_refl _, Nat.le_refl _⟩) G w (fun H locs w => ?_)
  refine lv_if_le (tgt := 106) G.hx G.hb (dcs_get dec_X7_lawTells_1 21 rfl) (by decide) (fun hc => ?_) (fun hc => ?_)
  · rw [if_pos hc] at hf
    refine lv_iconst (v := (0 : Int32)) G.hx G.hb (dcs_get dec_X7_lawTells_1 24 rfl) (by decide) ?_
    exact B_X7_lawTells_107 (0 : Int32) σ38 G hm  hf  w (lv_sub hl [] rfl)
  · rw [if_neg hc] at hf
    refine lv_iconst (v := (1 : Int32)) G.hx G.hb (dcs_get dec_X7_lawTells_1 22 rfl) (by decide) ?_
    refine lv_goto (tgt := 107) G.hx G.hb (dcs_get dec_X7_lawTells_1 23 rfl) (by decide) ?_
    exact B_X7_lawTells_107 (1 : Int32) σ38 G hm  hf  w (lv_sub hl [] rfl)
end
set_option maxRecDepth 100000 in
set_option maxHeartbeats 4000000 in
theorem C_X7_lawTells {l : Launch} {D : va_G} {ay : Nat → ClassId} {ad : Nat → Nat} (hi : hInj NC ad) (a0 : Nat) (l1 : Int32) (l2 : Int32) (l3 : Int32) (σ : hSt) {r0 : Int32} {σ0 : hSt} (hf : F_X7_lawTells a0 l1 l2 l3 σ = some (r0, σ0)) (ok_a0 : okr kC NC 7 a0 = true) : hM l D ay kC NC ad yX7_lawTells cX7_lawTells 4 ((some .boolean)) (rmK 2 48) [.ref (ad a0), .int l1, .int l2, .int l3] σ (cI D ay kC NC ad r0 σ0) := by
  refine hM_in (by decide) hi (Nat.le_of_ble_eq_true rfl) ?_
  intro p e s m below meth c G hm w ls hl
  exact B_X7_lawTells_0 a0 l1 l2 l3 σ G hm ok_a0 hf w (lv_sub hl [0, 1, 2, 3] rfl)

/-! HillDrums.Text.heardOn(I)J -/
def DL_X7_heardOn_0 : List (Nat × Instr × Nat) := [(0, .iload_n 1, 1), (1, .sipush 255, 3), (4, .iand, 1), (5, .istore_n 2, 1), (6, .aload_n 0, 1), (7, .getfield 67, 3), (10, .iload_n 2, 1), (11, .iaload, 1), (12, .iload_n 1, 1), (13, .if_icmp .eq 86, 3), (16, .aload_n 0, 1), (17, .getfield 67, 3), (20, .iload_n 2, 1), (21, .iload_n 1, 1), (22, .iastore, 1), (23, .aload_n 0, 1), (24, .getfield 63, 3), (27, .iload_n 2, 1), (28, .lconst 0, 1), (29, .lastore, 1), (30, .iconst 0, 1), (31, .istore_n 3, 1), (32, .iload_n 3, 1), (33, .aload_n 0, 1), (34, .getfield 9, 3), (37, .if_icmp .ge 62, 3), (40, .iconst 0, 1), (41, .istore 4, 2), (43, .iload 4, 2), (45, .aload_n 0, 1), (46, .getfield 9, 3), (49, .if_icmp .ge 44, 3), (52, .iload_n 3, 1), (53, .iload 4, 2), (55, .if_icmp .eq 14, 3), (58, .aload_n 0, 1), (59, .iload_n 3, 1), (60, .iload 4, 2), (62, .iload_n 1, 1), (63, .invokevirtual 95, 3)]
set_option maxRecDepth 100000 in
theorem dec_X7_heardOn_0 : dcs cX7_heardOn DL_X7_heardOn_0 = true := by decide +kernel
def DL_X7_heardOn_1 : List (Nat × Instr × Nat) := [(66, .ifCond .eq 21, 3), (69, .aload_n 0, 1), (70, .getfield 63, 3), (73, .iload_n 2, 1), (74, .dup2, 1), (75, .laload, 1), (76, .lconst 1, 1), (77, .bipush 6, 2), (79, .iload_n 3, 1), (80, .imul, 1), (81, .iload 4, 2), (83, .iadd, 1), (84, .lshl, 1), (85, .lor, 1), (86, .lastore, 1), (87, .iinc 4 1, 3), (90, .goto (-47), 3), (93, .iinc 3 1, 3), (96, .goto (-64), 3), (99, .aload_n 0, 1), (100, .getfield 63, 3), (103, .iload_n 2, 1), (104, .laload, 1), (105, .lreturn, 1)]
set_option maxRecDepth 100000 in
theorem dec_X7_heardOn_1 : dcs cX7_heardOn DL_X7_heardOn_1 = true := by decide +kernel
theorem lb_X7_heardOn : lkB yX7_heardOn cX7_heardOn 5 ((some .long)) 1 := ⟨q_754, q_3, ⟨by decide, by decide⟩, by decide +kernel⟩
theorem lv_X7_heardOn : lkV yX7_heardOn := ⟨q_753, qs_42⟩
def F_X7_heardOn_87 (a0 : Nat) (l1 : Int32) (l2 : Int32) (l3 : Int32) (l4 : Int32) (σ : hSt) : Option ((Int32 × hSt) ⊕ ((Int32 × hSt) ⊕ (Int64 × hSt))) :=
cL (l4 + (1 : Int32)) fun v1 =>
some (.inl (v1, σ))
def F_X7_heardOn_69 (a0 : Nat) (l1 : Int32) (l2 : Int32) (l3 : Int32) (l4 : Int32) (σ : hSt) : Option ((Int32 × hSt) ⊕ ((Int32 × hSt) ⊕ (Int64 × hSt))) :=
cR (σ.2.2 a0 14) (okr kC NC 103) fun z2 =>
cG (inb l2 (kC z2).2) <|
cG (inb l2 (kC z2).2) <|
cL (uJ σ z2 l2.toNatClampNeg ((σ.2.1 z2 l2.toNatClampNeg) ||| ((1 : Int64) <<< ((((6 : Int32) * l3) + l4).toInt64 &&& 63)))) fun σ5 =>
F_X7_heardOn_87 a0 l1 l2 l3 l4 σ5
def F_X7_heardOn_43b (a0 : Nat) (l1 : Int32) (l2 : Int32) (l3 : Int32) (l4 : Int32) (σ : hSt) : Option ((Int32 × hSt) ⊕ ((Int32 × hSt) ⊕ (Int64 × hSt))) :=
if (σ.1 a0 0) ≤ l4 then (
cL (l3 + (1 : Int32)) fun v6 =>
some (.inr (.inl (v6, σ)))) else (
if l3 = l4 then (
F_X7_heardOn_69 a0 l1 l2 l3 l4 σ) else (
cC (F_X7_lawTells a0 l3 l4 l1 σ) fun v8 σ9 =>
if v8 = 0 then (
F_X7_heardOn_87 a0 l1 l2 l3 l4 σ9) else (
F_X7_heardOn_69 a0 l1 l2 l3 l4 σ9)))
def S_X7_heardOn_43 (a0 : Nat) (l1 : Int32) (l2 : Int32) (l3 : Int32) (v : Int32 × hSt) : Option ((Int32 × hSt) ⊕ ((Int32 × hSt) ⊕ (Int64 × hSt))) := F_X7_heardOn_43b a0 l1 l2 l3 v.1 v.2
def F_X7_heardOn_43 (a0 : Nat) (l1 : Int32) (l2 : Int32) (l3 : Int32) (l4 : Int32) (σ : hSt) : Option ((Int32 × hSt) ⊕ (Int64 × hSt)) := lp (S_X7_heardOn_43 a0 l1 l2 l3) fuel (l4, σ)
def F_X7_heardOn_99 (a0 : Nat) (l2 : Int32) (σ : hSt) : Option (Int64 × hSt) :=
cR (σ.2.2 a0 14) (okr kC NC 103) fun z10 =>
cG (inb l2 (kC z10).2) <|
some ((σ.2.1 z10 l2.toNatClampNeg, σ))
def F_X7_heardOn_32b (a0 : Nat) (l1 : Int32) (l2 : Int32) (l3 : Int32) (σ : hSt) : Option ((Int32 × hSt) ⊕ (Int64 × hSt)) :=
if (σ.1 a0 0) ≤ l3 then (
(F_X7_heardOn_99 a0 l2 σ).map (fun x => .inr (x))) else (
F_X7_heardOn_43 a0 l1 l2 l3 (0 : Int32) σ)
def S_X7_heardOn_32 (a0 : Nat) (l1 : Int32) (l2 : Int32) (v : Int32 × hSt) : Option ((Int32 × hSt) ⊕ (Int64 × hSt)) := F_X7_heardOn_32b a0 l1 l2 v.1 v.2
def F_X7_heardOn_32 (a0 : Nat) (l1 : Int32) (l2 : Int32) (l3 : Int32) (σ : hSt) : Option (Int64 × hSt) := lp (S_X7_heardOn_32 a0 l1 l2) fuel (l3, σ)
def F_X7_heardOn (a0 : Nat) (l1 : Int32) (σ : hSt) : Option (Int64 × hSt) :=
cL (l1 &&& (255 : Int32)) fun v12 =>
cR (σ.2.2 a0 15) (okr kC NC 101) fun z13 =>
cG (inb v12 (kC z13).2) <|
if (σ.1 z13 v12.toNatClampNeg) = l1 then (
F_X7_heardOn_99 a0 v12 σ) else (
cR (σ.2.2 a0 15) (okr kC NC 101) fun z15 =>
cG (inb v12 (kC z15).2) <|
cL (uI σ z15 v12.toNatClampNeg l1) fun σ17 =>
cR (σ17.2.2 a0 14) (okr kC NC 103) fun z18 =>
cG (inb v12 (kC z18).2) <|
cL (uJ σ17 z18 v12.toNatClampNeg (0 : Int64)) fun σ20 =>
F_X7_heardOn_32 a0 l1 v12 (0 : Int32) σ20)
section
variable {p : Program} {l : Launch} {e : Env} {s : State} {m : MethodId} {args : Array Value} {below : List Frame} {meth : Method} {c : Code} {D : va_G} {ay : Nat → ClassId} {ad : Nat → Nat}
set_option maxRecDepth 100000 in
set_option maxHeartbeats 4000000 in
theorem B_X7_heardOn_87 {H : Heap} {locs : List Loc} {ls : Array Slot} {r0 : Int64} {σ0 : hSt} {o : (Int32 × hSt) ⊕ ((Int32 × hSt) ⊕ (Int64 × hSt))} (a0 : Nat) (l1 : Int32) (l2 : Int32) (l3 : Int32) (l4 : Int32) (σ : hSt) (G : Gx p m c cX7_heardOn 5 s args RX7 D ay NC ad (aN NC ad)) (hm : meth.sig.returnType = (some .long) ∧ meth.locks = false) (ok_a0 : okr kC NC 7 a0 = true) (hf : F_X7_heardOn_87 a0 l1 l2 l3 l4 σ = some o) (hb0 : ∀ (v : Int32 × hSt), o = .inr (.inl v) → ∀ (H : Heap) (locs : List Loc) (ls : Array Slot), Wd D ay kC NC ad (aN NC ad) s v.2 H locs → lv_has ls 5 [(0, .ref (ad a0)), (1, .int l1), (2, .int l2), (3, .int v.1)] → W p l e (rmK 3 71) s m args below meth c H locs 0 0 (MQ below (cJ D ay kC NC ad r0 σ0) args s 0 0 (aN NC ad)) (F0 m 32 ls [])) (hb1 : ∀ (v : Int32 × hSt), o = .inl v → ∀ (H : Heap) (locs : List Loc) (ls : Array Slot), Wd D ay kC NC ad (aN NC ad) s v.2 H locs → lv_has ls 5 [(0, .ref (ad a0)), (1, .int l1), (2, .int l2), (3, .int l3), (4, .int v.1)] → W p l e (rmK 3 71) s m args below meth c H locs 0 0 (MQ below (cJ D ay kC NC ad r0 σ0) args s 0 0 (aN NC ad)) (F0 m 43 ls [])) (hr : ∀ x, o = .inr (.inr (x)) → x = (r0, σ0)) (w : Wd D ay kC NC ad (aN NC ad) s σ H locs) (hl : lv_has ls 5 [(0, .ref (ad a0)), (1, .int l1), (2, .int l2), (3, .int l3), (4, .int l4)]) : W p l e (rmK 3 71) s m args below meth c H locs 0 0 (MQ below (cJ D ay kC NC ad r0 σ0) args s 0 0 (aN NC ad)) (F0 m 87 ls []) := by
  have k_a0 := okr_in ok_a0
  unfold F_X7_heardOn_87 at hf
  obtain ⟨v1, e_v1, hf⟩ := cL_some hf
  refine lv_iinc (v := v1) (lv' := [(4, .int v1), (0, .ref (ad a0)), (1, .int l1), (2, .int l2), (3, .int l3)]) G.hx G.hb (dcs_get dec_X7_heardOn_1 15 rfl) hl (k := 4) rfl (by rw [e_v1]; rfl) (by decide) rfl (fun ls hl => ?_)
  refine lv_goto (tgt := 43) G.hx G.hb (dcs_get dec_X7_heardOn_1 16 rfl) (by decide) ?_
  exact hb1 _ (Option.some.inj hf).symm _ _ _ w (lv_sub hl [1, 2, 3, 4, 0] rfl)
set_option maxRecDepth 100000 in
set_option maxHeartbeats 4000000 in
theorem B_X7_heardOn_69 {H : Heap} {locs : List Loc} {ls : Array Slot} {r0 : Int64} {σ0 : hSt} {o : (Int32 × hSt) ⊕ ((Int32 × hSt) ⊕ (Int64 × hSt))} (a0 : Nat) (l1 : Int32) (l2 : Int32) (l3 : Int32) (l4 : Int32) (σ : hSt) (G : Gx p m c cX7_heardOn 5 s args RX7 D ay NC ad (aN NC ad)) (hm : meth.sig.returnType = (some .long) ∧ meth.locks = false) (ok_a0 : okr kC NC 7 a0 = true) (hf : F_X7_heardOn_69 a0 l1 l2 l3 l4 σ = some o) (hb0 : ∀ (v : Int32 × hSt), o = .inr (.inl v) → ∀ (H : Heap) (locs : List Loc) (ls : Array Slot), Wd D ay kC NC ad (aN NC ad) s v.2 H locs → lv_has ls 5 [(0, .ref (ad a0)), (1, .int l1), (2, .int l2), (3, .int v.1)] → W p l e (rmK 3 71) s m args below meth c H locs 0 0 (MQ below (cJ D ay kC NC ad r0 σ0) args s 0 0 (aN NC ad)) (F0 m 32 ls [])) (hb1 : ∀ (v : Int32 × hSt), o = .inl v → ∀ (H : Heap) (locs : List Loc) (ls : Array Slot), Wd D ay kC NC ad (aN NC ad) s v.2 H locs → lv_has ls 5 [(0, .ref (ad a0)), (1, .int l1), (2, .int l2), (3, .int l3), (4, .int v.1)] → W p l e (rmK 3 71) s m args below meth c H locs 0 0 (MQ below (cJ D ay kC NC ad r0 σ0) args s 0 0 (aN NC ad)) (F0 m 43 ls [])) (hr : ∀ x, o = .inr (.inr (x)) → x = (r0, σ0)) (w : Wd D ay kC NC ad (aN NC ad) s σ H locs) (hl : lv_has ls 5 [(0, .ref (ad a0)), (1, .int l1), (2, .int l2), (3, .int l3), (4, .int l4)]) : W p l e (rmK 3 71) s m args below meth c H locs 0 0 (MQ below (cJ D ay kC NC ad r0 σ0) args s 0 0 (aN NC ad)) (F0 m 69 ls []) := by
  have k_a0 := okr_in ok_a0
  unfold F_X7_heardOn_69 at hf
  refine lv_aload_n G.hx G.hb (dcs_get dec_X7_heardOn_1 1 rfl) rfl (lv_at hl 0 rfl) ?_
  obtain ⟨z2, e_z2, ok_z2, hf⟩ := cR_some hf
  have k_z2 := okr_in ok_z2
  refine r_getr (k := 14) cls7 fi_7_14.1 fi_7_14.2 q_136 G w k_a0.1 k_a0.2 e_z2 (dcs_get dec_X7_heardOn_1 2 rfl) ?_
  refine lv_iload_n G.hx G.hb (dcs_get dec_X7_heardOn_1 3 rfl) rfl (lv_at hl 2 rfl) ?_
  refine lv_dup2_11 G.hx G.hb (dcs_get dec_X7_heardOn_1 4 rfl) rfl rfl ?_
  obtain ⟨h3, hf⟩ := cG_some hf
  refine r_lald G w k_z2.1 k_z2.2 h3 (dcs_get dec_X7_heardOn_1 5 rfl) ?_
  refine lv_lconst (v := (1 : Int64)) G.hx G.hb (dcs_get dec_X7_heardOn_1 6 rfl) (by decide) ?_
  refine lv_bipush (v := (6 : Int32)) G.hx G.hb (dcs_get dec_X7_heardOn_1 7 rfl) (by decide) ?_
  refine lv_iload_n G.hx G.hb (dcs_get dec_X7_heardOn_1 8 rfl) rfl (lv_at hl 3 rfl) ?_
  refine lv_imul G.hx G.hb (dcs_get dec_X7_heardOn_1 9 rfl) ?_
  refine lv_iload G.hx G.hb (dcs_get dec_X7_heardOn_1 10 rfl) (lv_at hl 4 rfl) ?_
  refine lv_iadd G.hx G.hb (dcs_get dec_X7_heardOn_1 11 rfl) ?_
  refine lv_lshl G.hx G.hb (dcs_get dec_X7_heardOn_1 12 rfl) rfl ?_
  refine lv_lor G.hx G.hb (dcs_get dec_X7_heardOn_1 13 rfl) ?_
  obtain ⟨h4, hf⟩ := cG_some hf
  obtain ⟨σ5, e_σ5, hf⟩ := cL_some hf
  refine r_last G w k_z2.1 k_z2.2 h4 (dcs_get dec_X7_heardOn_1 14 rfl) (fun H locs w => ?_)
  have w := Wd.nm e_σ5 w
  exact B_X7_heardOn_87 a0 l1 l2 l3 l4 σ5 G hm ok_a0 hf hb0 hb1 hr w (lv_sub hl [0, 1, 2, 3, 4] rfl)
set_option maxRecDepth 100000 in
set_option maxHeartbeats 4000000 in
theorem B_X7_heardOn_43b {H : Heap} {locs : List Loc} {ls : Array Slot} {r0 : Int64} {σ0 : hSt} {o : (Int32 × hSt) ⊕ ((Int32 × hSt) ⊕ (Int64 × hSt))} (a0 : Nat) (l1 : Int32) (l2 : Int32) (l3 : Int32) (l4 : Int32) (σ : hSt) (G : Gx p m c cX7_heardOn 5 s args RX7 D ay NC ad (aN NC ad)) (hm : meth.sig.returnType = (some .long) ∧ meth.locks = false) (ok_a0 : okr kC NC 7 a0 = true) (hf : F_X7_heardOn_43b a0 l1 l2 l3 l4 σ = some o) (hb0 : ∀ (v : Int32 × hSt), o = .inr (.inl v) → ∀ (H : Heap) (locs : List Loc) (ls : Array Slot), Wd D ay kC NC ad (aN NC ad) s v.2 H locs → lv_has ls 5 [(0, .ref (ad a0)), (1, .int l1), (2, .int l2), (3, .int v.1)] → W p l e (rmK 3 71) s m args below meth c H locs 0 0 (MQ below (cJ D ay kC NC ad r0 σ0) args s 0 0 (aN NC ad)) (F0 m 32 ls [])) (hb1 : ∀ (v : Int32 × hSt), o = .inl v → ∀ (H : Heap) (locs : List Loc) (ls : Array Slot), Wd D ay kC NC ad (aN NC ad) s v.2 H locs → lv_has ls 5 [(0, .ref (ad a0)), (1, .int l1), (2, .int l2), (3, .int l3), (4, .int v.1)] → W p l e (rmK 3 71) s m args below meth c H locs 0 0 (MQ below (cJ D ay kC NC ad r0 σ0) args s 0 0 (aN NC ad)) (F0 m 43 ls [])) (hr : ∀ x, o = .inr (.inr (x)) → x = (r0, σ0)) (w : Wd D ay kC NC ad (aN NC ad) s σ H locs) (hl : lv_has ls 5 [(0, .ref (ad a0)), (1, .int l1), (2, .int l2), (3, .int l3), (4, .int l4)]) : W p l e (rmK 3 71) s m args below meth c H locs 0 0 (MQ below (cJ D ay kC NC ad r0 σ0) args s 0 0 (aN NC ad)) (F0 m 43 ls []) := by
  have k_a0 := okr_in ok_a0
  unfold F_X7_heardOn_43b at hf
  refine lv_iload G.hx G.hb (dcs_get dec_X7_heardOn_0 28 rfl) (lv_at hl 4 rfl) ?_
  refine lv_aload_n G.hx G.hb (dcs_get dec_X7_heardOn_0 29 rfl) rfl (lv_at hl 0 rfl) ?_
  refine r_geti (k := 0) cls7 fi_7_0.1 fi_7_0.2 q_91 G w k_a0.1 k_a0.2 (dcs_get dec_X7_heardOn_0 30 rfl) ?_
  refine lv_icmp_ge (tgt := 93) G.hx G.hb (dcs_get dec_X7_heardOn_0 31 rfl) (by decide) (fun hc => ?_) (fun hc => ?_)
  · rw [if_pos hc] at hf
    obtain ⟨v6, e_v6, hf⟩ := cL_some hf
    refine lv_iinc (v := v6) (lv' := [(3, .int v6), (0, .ref (ad a0)), (1, .int l1), (2, .int l2), (4, .int l4)]) G.hx G.hb (dcs_get dec_X7_heardOn_1 17 rfl) hl (k := 3) rfl (by rw [e_v6]; rfl) (by decide) rfl (fun ls hl => ?_)
    refine lv_goto (tgt := 32) G.hx G.hb (dcs_get dec_X7_heardOn_1 18 rfl) (by decide) ?_
    exact hb0 _ (Option.some.inj hf).symm _ _ _ w (lv_sub hl [1, 2, 3, 0] rfl)
  · rw [if_neg hc] at hf
    refine lv_iload_n G.hx G.hb (dcs_get dec_X7_heardOn_0 32 rfl) rfl (lv_at hl 3 rfl) ?_
    refine lv_iload G.hx G.hb (dcs_get dec_X7_heardOn_0 33 rfl) (lv_at hl 4 rfl) ?_
    refine lv_icmp_eq (tgt := 69) G.hx G.hb (dcs_get dec_X7_heardOn_0 34 rfl) (by decide) (fun hc => ?_) (fun hc => ?_)
    · rw [if_pos hc] at hf
      exact B_X7_heardOn_69 a0 l1 l2 l3 l4 σ G hm ok_a0 hf hb0 hb1 hr w (lv_sub hl [0, 1, 2, 3, 4] rfl)
    · rw [if_neg hc] at hf
      refine lv_aload_n G.hx G.hb (dcs_get dec_X7_heardOn_0 35 rfl) rfl (lv_at hl 0 rfl) ?_
      refine lv_iload_n G.hx G.hb (dcs_get dec_X7_heardOn_0 36 rfl) rfl (lv_at hl 3 rfl) ?_
      refine lv_iload G.hx G.hb (dcs_get dec_X7_heardOn_0 37 rfl) (lv_at hl 4 rfl) ?_
      refine lv_iload_n G.hx G.hb (dcs_get dec_X7_heardOn_0 38 rfl) rfl (lv_at hl 1 rfl) ?_
      obtain ⟨v8, σ9, h7, hf⟩ := cC_some hf
      refine a_i (k_V (As := [.int l3, .int l4, .int l1]) (rest := []) cls7 lb_X7_lawTells lv_X7_lawTells q_755 (C_X7_lawTells G.2.2.1 a0 l3 l4 l1 σ h7 ok_a0) ⟨(Nat.le_of_ble_eq_true rfl), (Nat.le_of_ble_eq_true rfl)⟩ G w k_a0.1 k_a0.2 rfl rfl hl.1 (Nat.le_of_ble_eq_true rfl) (dcs_get dec_X7_heardOn_0 39 rfl) ⟨Nat.le_refl _, Nat.le_refl _⟩) G w (fun H locs w => ?_)
      refine lv_if_eq (tgt := 87) G.hx G.hb (dcs_get dec_X7_heardOn_1 0 rfl) (by decide) (fun hc => ?_) (fun hc => ?_)
      · rw [if_pos hc] at hf
        exact B_X7_heardOn_87 a0 l1 l2 l3 l4 σ9 G hm ok_a0 hf hb0 hb1 hr w (lv_sub hl [0, 1, 2, 3, 4] rfl)
      · rw [if_neg hc] at hf
        exact B_X7_heardOn_69 a0 l1 l2 l3 l4 σ9 G hm ok_a0 hf hb0 hb1 hr w (lv_sub hl [0, 1, 2, 3, 4] rfl)
set_option maxRecDepth 100000 in
set_option maxHeartbeats 4000000 in
theorem H_X7_heardOn_43 {r0 : Int64} {σ0 : hSt} {o : (Int32 × hSt) ⊕ (Int64 × hSt)} (a0 : Nat) (l1 : Int32) (l2 : Int32) (l3 : Int32) (G : Gx p m c cX7_heardOn 5 s args RX7 D ay NC ad (aN NC ad)) (hm : meth.sig.returnType = (some .long) ∧ meth.locks = false) (ok_a0 : okr kC NC 7 a0 = true) (hb0 : ∀ (v : Int32 × hSt), o = .inl v → ∀ (H : Heap) (locs : List Loc) (ls : Array Slot), Wd D ay kC NC ad (aN NC ad) s v.2 H locs → lv_has ls 5 [(0, .ref (ad a0)), (1, .int l1), (2, .int l2), (3, .int v.1)] → W p l e (rmK 3 71) s m args below meth c H locs 0 0 (MQ below (cJ D ay kC NC ad r0 σ0) args s 0 0 (aN NC ad)) (F0 m 32 ls [])) (hr : ∀ x, o = .inr (x) → x = (r0, σ0)) : ∀ (k : Nat) (v : Int32 × hSt), lp (S_X7_heardOn_43 a0 l1 l2 l3) k v = some o → ∀ (H : Heap) (locs : List Loc) (ls : Array Slot), Wd D ay kC NC ad (aN NC ad) s v.2 H locs → lv_has ls 5 [(0, .ref (ad a0)), (1, .int l1), (2, .int l2), (3, .int l3), (4, .int v.1)] → W p l e (rmK 3 71) s m args below meth c H locs 0 0 (MQ below (cJ D ay kC NC ad r0 σ0) args s 0 0 (aN NC ad)) (F0 m 43 ls []) := by
  intro k
  induction k with
  | zero => intro v hf; cases hf
  | succ k ih =>
    intro v hf H locs ls w hl
    obtain ⟨o1, h1, h2, h3⟩ := lp_some hf
    exact B_X7_heardOn_43b a0 l1 l2 l3 v.1 v.2 G hm ok_a0 h1 (fun v' e => hb0 v' (h3 _ e).symm) (fun v' e => ih v' (h2 v' e)) (fun x e => hr x (h3 _ e).symm) w hl
set_option maxRecDepth 100000 in
set_option maxHeartbeats 4000000 in
theorem B_X7_heardOn_43 {H : Heap} {locs : List Loc} {ls : Array Slot} {r0 : Int64} {σ0 : hSt} {o : (Int32 × hSt) ⊕ (Int64 × hSt)} (a0 : Nat) (l1 : Int32) (l2 : Int32) (l3 : Int32) (l4 : Int32) (σ : hSt) (G : Gx p m c cX7_heardOn 5 s args RX7 D ay NC ad (aN NC ad)) (hm : meth.sig.returnType = (some .long) ∧ meth.locks = false) (ok_a0 : okr kC NC 7 a0 = true) (hf : F_X7_heardOn_43 a0 l1 l2 l3 l4 σ = some o) (hb0 : ∀ (v : Int32 × hSt), o = .inl v → ∀ (H : Heap) (locs : List Loc) (ls : Array Slot), Wd D ay kC NC ad (aN NC ad) s v.2 H locs → lv_has ls 5 [(0, .ref (ad a0)), (1, .int l1), (2, .int l2), (3, .int v.1)] → W p l e (rmK 3 71) s m args below meth c H locs 0 0 (MQ below (cJ D ay kC NC ad r0 σ0) args s 0 0 (aN NC ad)) (F0 m 32 ls [])) (hr : ∀ x, o = .inr (x) → x = (r0, σ0)) (w : Wd D ay kC NC ad (aN NC ad) s σ H locs) (hl : lv_has ls 5 [(0, .ref (ad a0)), (1, .int l1), (2, .int l2), (3, .int l3), (4, .int l4)]) : W p l e (rmK 3 71) s m args below meth c H locs 0 0 (MQ below (cJ D ay kC NC ad r0 σ0) args s 0 0 (aN NC ad)) (F0 m 43 ls []) := by
  unfold F_X7_heardOn_43 at hf
  exact H_X7_heardOn_43 a0 l1 l2 l3  G hm ok_a0 hb0 hr fuel (l4, σ) hf _ _ _ w hl
set_option maxRecDepth 100000 in
set_option maxHeartbeats 4000000 in
theorem B_X7_heardOn_99 {H : Heap} {locs : List Loc} {ls : Array Slot} {r0 : Int64} {σ0 : hSt} (a0 : Nat) (l2 : Int32) (σ : hSt) (G : Gx p m c cX7_heardOn 5 s args RX7 D ay NC ad (aN NC ad)) (hm : meth.sig.returnType = (some .long) ∧ meth.locks = false) (ok_a0 : okr kC NC 7 a0 = true) (hf : F_X7_heardOn_99 a0 l2 σ = some (r0, σ0))  (w : Wd D ay kC NC ad (aN NC ad) s σ H locs) (hl : lv_has ls 5 [(0, .ref (ad a0)), (2, .int l2)]) : W p l e (rmK 3 71) s m args below meth c H locs 0 0 (MQ below (cJ D ay kC NC ad r0 σ0) args s 0 0 (aN NC ad)) (F0 m 99 ls []) := by
  have k_a0 := okr_in ok_a0
  unfold F_X7_heardOn_99 at hf
  refine lv_aload_n G.hx G.hb (dcs_get dec_X7_heardOn_1 19 rfl) rfl (lv_at hl 0 rfl) ?_
  obtain ⟨z10, e_z10, ok_z10, hf⟩ := cR_some hf
  have k_z10 := okr_in ok_z10
  refine r_getr (k := 14) cls7 fi_7_14.1 fi_7_14.2 q_136 G w k_a0.1 k_a0.2 e_z10 (dcs_get dec_X7_heardOn_1 20 rfl) ?_
  refine lv_iload_n G.hx G.hb (dcs_get dec_X7_heardOn_1 21 rfl) rfl (lv_at hl 1 rfl) ?_
  obtain ⟨h11, hf⟩ := cG_some hf
  refine r_lald G w k_z10.1 k_z10.2 h11 (dcs_get dec_X7_heardOn_1 22 rfl) ?_
  have e9 := Option.some.inj hf
  exact r_lret G w hm (congrArg Prod.fst e9) (congrArg Prod.snd e9) (dcs_get dec_X7_heardOn_1 23 rfl)
set_option maxRecDepth 100000 in
set_option maxHeartbeats 4000000 in
theorem B_X7_heardOn_32b {H : Heap} {locs : List Loc} {ls : Array Slot} {r0 : Int64} {σ0 : hSt} {o : (Int32 × hSt) ⊕ (Int64 × hSt)} (a0 : Nat) (l1 : Int32) (l2 : Int32) (l3 : Int32) (σ : hSt) (G : Gx p m c cX7_heardOn 5 s args RX7 D ay NC ad (aN NC ad)) (hm : meth.sig.returnType = (some .long) ∧ meth.locks = false) (ok_a0 : okr kC NC 7 a0 = true) (hf : F_X7_heardOn_32b a0 l1 l2 l3 σ = some o) (hb0 : ∀ (v : Int32 × hSt), o = .inl v → ∀ (H : Heap) (locs : List Loc) (ls : Array Slot), Wd D ay kC NC ad (aN NC ad) s v.2 H locs → lv_has ls 5 [(0, .ref (ad a0)), (1, .int l1), (2, .int l2), (3, .int v.1)] → W p l e (rmK 3 71) s m args below meth c H locs 0 0 (MQ below (cJ D ay kC NC ad r0 σ0) args s 0 0 (aN NC ad)) (F0 m 32 ls [])) (hr : ∀ x, o = .inr (x) → x = (r0, σ0)) (w : Wd D ay kC NC ad (aN NC ad) s σ H locs) (hl : lv_has ls 5 [(0, .ref (ad a0)), (1, .int l1), (2, .int l2), (3, .int l3)]) : W p l e (rmK 3 71) s m args below meth c H locs 0 0 (MQ below (cJ D ay kC NC ad r0 σ0) args s 0 0 (aN NC ad)) (F0 m 32 ls []) := by
  have k_a0 := okr_in ok_a0
  unfold F_X7_heardOn_32b at hf
  refine lv_iload_n G.hx G.hb (dcs_get dec_X7_heardOn_0 22 rfl) rfl (lv_at hl 3 rfl) ?_
  refine lv_aload_n G.hx G.hb (dcs_get dec_X7_heardOn_0 23 rfl) rfl (lv_at hl 0 rfl) ?_
  refine r_geti (k := 0) cls7 fi_7_0.1 fi_7_0.2 q_91 G w k_a0.1 k_a0.2 (dcs_get dec_X7_heardOn_0 24 rfl) ?_
  refine lv_icmp_ge (tgt := 99) G.hx G.hb (dcs_get dec_X7_heardOn_0 25 rfl) (by decide) (fun hc => ?_) (fun hc => ?_)
  · rw [if_pos hc] at hf
    obtain ⟨x9, h9, e9⟩ := map_some_inv hf
    subst e9
    have e8 := hr _ rfl
    rw [e8] at h9
    exact B_X7_heardOn_99 a0 l2 σ G hm ok_a0 h9 w (lv_sub hl [0, 2] rfl)
  · rw [if_neg hc] at hf
    refine lv_iconst (v := (0 : Int32)) G.hx G.hb (dcs_get dec_X7_heardOn_0 26 rfl) (by decide) ?_
    refine lv_istore (lv' := [(4, .int (0 : Int32)), (0, .ref (ad a0)), (1, .int l1), (2, .int l2), (3, .int l3)]) G.hx G.hb (dcs_get dec_X7_heardOn_0 27 rfl) hl (by decide) rfl (fun ls hl => ?_)
    exact B_X7_heardOn_43 a0 l1 l2 l3 (0 : Int32) σ G hm ok_a0 hf hb0 hr w (lv_sub hl [1, 2, 3, 4, 0] rfl)
set_option maxRecDepth 100000 in
set_option maxHeartbeats 4000000 in
theorem H_X7_heardOn_32 {r0 : Int64} {σ0 : hSt} (a0 : Nat) (l1 : Int32) (l2 : Int32) (G : Gx p m c cX7_heardOn 5 s args RX7 D ay NC ad (aN NC ad)) (hm : meth.sig.returnType = (some .long) ∧ meth.locks = false) (ok_a0 : okr kC NC 7 a0 = true)  : ∀ (k : Nat) (v : Int32 × hSt), lp (S_X7_heardOn_32 a0 l1 l2) k v = some (r0, σ0) → ∀ (H : Heap) (locs : List Loc) (ls : Array Slot), Wd D ay kC NC ad (aN NC ad) s v.2 H locs → lv_has ls 5 [(0, .ref (ad a0)), (1, .int l1), (2, .int l2), (3, .int v.1)] → W p l e (rmK 3 71) s m args below meth c H locs 0 0 (MQ below (cJ D ay kC NC ad r0 σ0) args s 0 0 (aN NC ad)) (F0 m 32 ls []) := by
  intro k
  induction k with
  | zero => intro v hf; cases hf
  | succ k ih =>
    intro v hf H locs ls w hl
    obtain ⟨o1, h1, h2, h3⟩ := lp_some hf
    exact B_X7_heardOn_32b a0 l1 l2 v.1 v.2 G hm ok_a0 h1  (fun v' e => ih v' (h2 v' e)) (fun x e => h3 x e) w hl
set_option maxRecDepth 100000 in
set_option maxHeartbeats 4000000 in
theorem B_X7_heardOn_32 {H : Heap} {locs : List Loc} {ls : Array Slot} {r0 : Int64} {σ0 : hSt} (a0 : Nat) (l1 : Int32) (l2 : Int32) (l3 : Int32) (σ : hSt) (G : Gx p m c cX7_heardOn 5 s args RX7 D ay NC ad (aN NC ad)) (hm : meth.sig.returnType = (some .long) ∧ meth.locks = false) (ok_a0 : okr kC NC 7 a0 = true) (hf : F_X7_heardOn_32 a0 l1 l2 l3 σ = some (r0, σ0))  (w : Wd D ay kC NC ad (aN NC ad) s σ H locs) (hl : lv_has ls 5 [(0, .ref (ad a0)), (1, .int l1), (2, .int l2), (3, .int l3)]) : W p l e (rmK 3 71) s m args below meth c H locs 0 0 (MQ below (cJ D ay kC NC ad r0 σ0) args s 0 0 (aN NC ad)) (F0 m 32 ls []) := by
  unfold F_X7_heardOn_32 at hf
  exact H_X7_heardOn_32 a0 l1 l2  G hm ok_a0  fuel (l3, σ) hf _ _ _ w hl
set_option maxRecDepth 100000 in
set_option maxHeartbeats 4000000 in
theorem B_X7_heardOn_0 {H : Heap} {locs : List Loc} {ls : Array Slot} {r0 : Int64} {σ0 : hSt} (a0 : Nat) (l1 : Int32) (σ : hSt) (G : Gx p m c cX7_heardOn 5 s args RX7 D ay NC ad (aN NC ad)) (hm : meth.sig.returnType = (some .long) ∧ meth.locks = false) (ok_a0 : okr kC NC 7 a0 = true) (hf : F_X7_heardOn a0 l1 σ = some (r0, σ0))  (w : Wd D ay kC NC ad (aN NC ad) s σ H locs) (hl : lv_has ls 5 [(0, .ref (ad a0)), (1, .int l1)]) : W p l e (rmK 3 71) s m args below meth c H locs 0 0 (MQ below (cJ D ay kC NC ad r0 σ0) args s 0 0 (aN NC ad)) (F0 m 0 ls []) := by
  have k_a0 := okr_in ok_a0
  unfold F_X7_heardOn at hf
  refine lv_iload_n G.hx G.hb (dcs_get dec_X7_heardOn_0 0 rfl) rfl (lv_at hl 1 rfl) ?_
  refine lv_sipush (v := (255 : Int32)) G.hx G.hb (dcs_get dec_X7_heardOn_0 1 rfl) (by decide) ?_
  refine lv_iand G.hx G.hb (dcs_get dec_X7_heardOn_0 2 rfl) ?_
  obtain ⟨v12, e_v12, hf⟩ := cL_some hf
  refine r_topi e_v12 ?_
  refine lv_istore_n (lv' := [(2, .int v12), (0, .ref (ad a0)), (1, .int l1)]) G.hx G.hb (dcs_get dec_X7_heardOn_0 3 rfl) rfl hl (by decide) rfl (fun ls hl => ?_)
  refine lv_aload_n G.hx G.hb (dcs_get dec_X7_heardOn_0 4 rfl) rfl (lv_at hl 1 rfl) ?_
  obtain ⟨z13, e_z13, ok_z13, hf⟩ := cR_some hf
  have k_z13 := okr_in ok_z13
  refine r_getr (k := 15) cls7 fi_7_15.1 fi_7_15.2 q_137 G w k_a0.1 k_a0.2 e_z13 (dcs_get dec_X7_heardOn_0 5 rfl) ?_
  refine lv_iload_n G.hx G.hb (dcs_get dec_X7_heardOn_0 6 rfl) rfl (lv_at hl 0 rfl) ?_
  obtain ⟨h14, hf⟩ := cG_some hf
  refine r_iald G w k_z13.1 k_z13.2 h14 (dcs_get dec_X7_heardOn_0 7 rfl) ?_
  refine lv_iload_n G.hx G.hb (dcs_get dec_X7_heardOn_0 8 rfl) rfl (lv_at hl 2 rfl) ?_
  refine lv_icmp_eq (tgt := 99) G.hx G.hb (dcs_get dec_X7_heardOn_0 9 rfl) (by decide) (fun hc => ?_) (fun hc => ?_)
  · rw [if_pos hc] at hf
    exact B_X7_heardOn_99 a0 v12 σ G hm ok_a0 hf  w (lv_sub hl [1, 0] rfl)
  · rw [if_neg hc] at hf
    refine lv_aload_n G.hx G.hb (dcs_get dec_X7_heardOn_0 10 rfl) rfl (lv_at hl 1 rfl) ?_
    obtain ⟨z15, e_z15, ok_z15, hf⟩ := cR_some hf
    have k_z15 := okr_in ok_z15
    refine r_getr (k := 15) cls7 fi_7_15.1 fi_7_15.2 q_137 G w k_a0.1 k_a0.2 e_z15 (dcs_get dec_X7_heardOn_0 11 rfl) ?_
    refine lv_iload_n G.hx G.hb (dcs_get dec_X7_heardOn_0 12 rfl) rfl (lv_at hl 0 rfl) ?_
    refine lv_iload_n G.hx G.hb (dcs_get dec_X7_heardOn_0 13 rfl) rfl (lv_at hl 2 rfl) ?_
    obtain ⟨h16, hf⟩ := cG_some hf
    obtain ⟨σ17, e_σ17, hf⟩ := cL_some hf
    refine r_iast G w k_z15.1 k_z15.2 h16 (dcs_get dec_X7_heardOn_0 14 rfl) (fun H locs w => ?_)
    have w := Wd.nm e_σ17 w
    refine lv_aload_n G.hx G.hb (dcs_get dec_X7_heardOn_0 15 rfl) rfl (lv_at hl 1 rfl) ?_
    obtain ⟨z18, e_z18, ok_z18, hf⟩ := cR_some hf
    have k_z18 := okr_in ok_z18
    refine r_getr (k := 14) cls7 fi_7_14.1 fi_7_14.2 q_136 G w k_a0.1 k_a0.2 e_z18 (dcs_get dec_X7_heardOn_0 16 rfl) ?_
    refine lv_iload_n G.hx G.hb (dcs_get dec_X7_heardOn_0 17 rfl) rfl (lv_at hl 0 rfl) ?_
    refine lv_lconst (v := (0 : Int64)) G.hx G.hb (dcs_get dec_X7_heardOn_0 18 rfl) (by decide) ?_
    obtain ⟨h19, hf⟩ := cG_some hf
    obtain ⟨σ20, e_σ20, hf⟩ := cL_some hf
    refine r_last G w k_z18.1 k_z18.2 h19 (dcs_get dec_X7_heardOn_0 19 rfl) (fun H locs w => ?_)
    have w := Wd.nm e_σ20 w
    refine lv_iconst (v := (0 : Int32)) G.hx G.hb (dcs_get dec_X7_heardOn_0 20 rfl) (by decide) ?_
    refine lv_istore_n (lv' := [(3, .int (0 : Int32)), (2, .int v12), (0, .ref (ad a0)), (1, .int l1)]) G.hx G.hb (dcs_get dec_X7_heardOn_0 21 rfl) rfl hl (by decide) rfl (fun ls hl => ?_)
    exact B_X7_heardOn_32 a0 l1 v12 (0 : Int32) σ20 G hm ok_a0 hf  w (lv_sub hl [2, 3, 1, 0] rfl)
end
set_option maxRecDepth 100000 in
set_option maxHeartbeats 4000000 in
theorem C_X7_heardOn {l : Launch} {D : va_G} {ay : Nat → ClassId} {ad : Nat → Nat} (hi : hInj NC ad) (a0 : Nat) (l1 : Int32) (σ : hSt) {r0 : Int64} {σ0 : hSt} (hf : F_X7_heardOn a0 l1 σ = some (r0, σ0)) (ok_a0 : okr kC NC 7 a0 = true) : hM l D ay kC NC ad yX7_heardOn cX7_heardOn 5 ((some .long)) (rmK 3 71) [.ref (ad a0), .int l1] σ (cJ D ay kC NC ad r0 σ0) := by
  refine hM_in (by decide) hi (Nat.le_of_ble_eq_true rfl) ?_
  intro p e s m below meth c G hm w ls hl
  exact B_X7_heardOn_0 a0 l1 σ G hm ok_a0 hf w (lv_sub hl [0, 1] rfl)

/-! HillDrums.hearersOf(JI)I -/
def DL_X11_hearersOf_0 : List (Nat × Instr × Nat) := [(0, .lload_n 0, 1), (1, .bipush 6, 2), (3, .iload_n 2, 1), (4, .imul, 1), (5, .lshr, 1), (6, .l2i, 1), (7, .bipush 63, 2), (9, .iand, 1), (10, .ireturn, 1)]
set_option maxRecDepth 100000 in
theorem dec_X11_hearersOf_0 : dcs cX11_hearersOf DL_X11_hearersOf_0 = true := by decide +kernel
theorem lb_X11_hearersOf : lkB yX11_hearersOf cX11_hearersOf 3 ((some .int)) 2 := ⟨q_758, q_1, ⟨by decide, by decide⟩, by decide +kernel⟩
def F_X11_hearersOf (l0 : Int64) (l2 : Int32) (σ : hSt) : Option (Int32) :=
some (((l0 >>> (((6 : Int32) * l2).toInt64 &&& 63)).toInt32) &&& (63 : Int32))
section
variable {p : Program} {l : Launch} {e : Env} {s : State} {m : MethodId} {args : Array Value} {below : List Frame} {meth : Method} {c : Code} {D : va_G} {ay : Nat → ClassId} {ad : Nat → Nat}
set_option maxRecDepth 100000 in
set_option maxHeartbeats 4000000 in
theorem B_X11_hearersOf_0 {H : Heap} {locs : List Loc} {ls : Array Slot} {r0 : Int32} (l0 : Int64) (l2 : Int32) (σ : hSt) (G : Gx p m c cX11_hearersOf 3 s args RX11 D ay NC ad (aN NC ad)) (hm : meth.sig.returnType = (some .int) ∧ meth.locks = false)  (hf : F_X11_hearersOf l0 l2 σ = some r0)  (w : Wd D ay kC NC ad (aN NC ad) s σ H locs) (hl : lv_has ls 3 [(0, .long l0), (2, .int l2)]) : W p l e (rmK 0 0) s m args below meth c H locs 0 0 (MQ below (cI D ay kC NC ad r0 σ) args s 0 0 (aN NC ad)) (F0 m 0 ls []) := by
  unfold F_X11_hearersOf at hf
  refine lv_lload_n G.hx G.hb (dcs_get dec_X11_hearersOf_0 0 rfl) rfl (lv_at hl 0 rfl) ?_
  refine lv_bipush (v := (6 : Int32)) G.hx G.hb (dcs_get dec_X11_hearersOf_0 1 rfl) (by decide) ?_
  refine lv_iload_n G.hx G.hb (dcs_get dec_X11_hearersOf_0 2 rfl) rfl (lv_at hl 1 rfl) ?_
  refine lv_imul G.hx G.hb (dcs_get dec_X11_hearersOf_0 3 rfl) ?_
  refine lv_lshr G.hx G.hb (dcs_get dec_X11_hearersOf_0 4 rfl) rfl ?_
  refine lv_l2i G.hx G.hb (dcs_get dec_X11_hearersOf_0 5 rfl) rfl ?_
  refine lv_bipush (v := (63 : Int32)) G.hx G.hb (dcs_get dec_X11_hearersOf_0 6 rfl) (by decide) ?_
  refine lv_iand G.hx G.hb (dcs_get dec_X11_hearersOf_0 7 rfl) ?_
  have e9 := Option.some.inj hf
  exact r_iret G w hm e9 rfl (dcs_get dec_X11_hearersOf_0 8 rfl)
end
set_option maxRecDepth 100000 in
set_option maxHeartbeats 4000000 in
theorem C_X11_hearersOf {l : Launch} {D : va_G} {ay : Nat → ClassId} {ad : Nat → Nat} (hi : hInj NC ad) (l0 : Int64) (l2 : Int32) (σ : hSt) {r0 : Int32} (hf : F_X11_hearersOf l0 l2 σ = some r0)  : hM l D ay kC NC ad yX11_hearersOf cX11_hearersOf 3 ((some .int)) (rmK 0 0) [.long l0, .int l2] σ (cI D ay kC NC ad r0 σ) := by
  refine hM_in (by decide) hi (Nat.le_of_ble_eq_true rfl) ?_
  intro p e s m below meth c G hm w ls hl
  exact B_X11_hearersOf_0 l0 l2 σ G hm  hf w (lv_sub hl [0, 1] rfl)

/-! HillDrums.pairOf(II)I -/
def DL_X11_pairOf_0 : List (Nat × Instr × Nat) := [(0, .bipush 6, 2), (2, .iload_n 1, 1), (3, .imul, 1), (4, .iload_n 0, 1), (5, .iadd, 1), (6, .ireturn, 1)]
set_option maxRecDepth 100000 in
theorem dec_X11_pairOf_0 : dcs cX11_pairOf DL_X11_pairOf_0 = true := by decide +kernel
theorem lb_X11_pairOf : lkB yX11_pairOf cX11_pairOf 2 ((some .int)) 2 := ⟨q_390, q_1, ⟨by decide, by decide⟩, by decide +kernel⟩
def F_X11_pairOf (l0 : Int32) (l1 : Int32) (σ : hSt) : Option (Int32) :=
some (((6 : Int32) * l1) + l0)
section
variable {p : Program} {l : Launch} {e : Env} {s : State} {m : MethodId} {args : Array Value} {below : List Frame} {meth : Method} {c : Code} {D : va_G} {ay : Nat → ClassId} {ad : Nat → Nat}
set_option maxRecDepth 100000 in
set_option maxHeartbeats 4000000 in
theorem B_X11_pairOf_0 {H : Heap} {locs : List Loc} {ls : Array Slot} {r0 : Int32} (l0 : Int32) (l1 : Int32) (σ : hSt) (G : Gx p m c cX11_pairOf 2 s args RX11 D ay NC ad (aN NC ad)) (hm : meth.sig.returnType = (some .int) ∧ meth.locks = false)  (hf : F_X11_pairOf l0 l1 σ = some r0)  (w : Wd D ay kC NC ad (aN NC ad) s σ H locs) (hl : lv_has ls 2 [(0, .int l0), (1, .int l1)]) : W p l e (rmK 0 0) s m args below meth c H locs 0 0 (MQ below (cI D ay kC NC ad r0 σ) args s 0 0 (aN NC ad)) (F0 m 0 ls []) := by
  unfold F_X11_pairOf at hf
  refine lv_bipush (v := (6 : Int32)) G.hx G.hb (dcs_get dec_X11_pairOf_0 0 rfl) (by decide) ?_
  refine lv_iload_n G.hx G.hb (dcs_get dec_X11_pairOf_0 1 rfl) rfl (lv_at hl 1 rfl) ?_
  refine lv_imul G.hx G.hb (dcs_get dec_X11_pairOf_0 2 rfl) ?_
  refine lv_iload_n G.hx G.hb (dcs_get dec_X11_pairOf_0 3 rfl) rfl (lv_at hl 0 rfl) ?_
  refine lv_iadd G.hx G.hb (dcs_get dec_X11_pairOf_0 4 rfl) ?_
  have e9 := Option.some.inj hf
  exact r_iret G w hm e9 rfl (dcs_get dec_X11_pairOf_0 5 rfl)
end
set_option maxRecDepth 100000 in
set_option maxHeartbeats 4000000 in
theorem C_X11_pairOf {l : Launch} {D : va_G} {ay : Nat → ClassId} {ad : Nat → Nat} (hi : hInj NC ad) (l0 : Int32) (l1 : Int32) (σ : hSt) {r0 : Int32} (hf : F_X11_pairOf l0 l1 σ = some r0)  : hM l D ay kC NC ad yX11_pairOf cX11_pairOf 2 ((some .int)) (rmK 0 0) [.int l0, .int l1] σ (cI D ay kC NC ad r0 σ) := by
  refine hM_in (by decide) hi (Nat.le_of_ble_eq_true rfl) ?_
  intro p e s m below meth c G hm w ls hl
  exact B_X11_pairOf_0 l0 l1 σ G hm  hf w (lv_sub hl [0, 1] rfl)

/-! HillDrums.rowOf(II)I -/
def DL_X11_rowOf_0 : List (Nat × Instr × Nat) := [(0, .iload_n 0, 1), (1, .bipush 6, 2), (3, .iload_n 1, 1), (4, .imul, 1), (5, .ishr, 1), (6, .bipush 63, 2), (8, .iand, 1), (9, .ireturn, 1)]
set_option maxRecDepth 100000 in
theorem dec_X11_rowOf_0 : dcs cX11_rowOf DL_X11_rowOf_0 = true := by decide +kernel
theorem lb_X11_rowOf : lkB yX11_rowOf cX11_rowOf 2 ((some .int)) 2 := ⟨q_830, q_1, ⟨by decide, by decide⟩, by decide +kernel⟩
def F_X11_rowOf (l0 : Int32) (l1 : Int32) (σ : hSt) : Option (Int32) :=
some ((l0 >>> (((6 : Int32) * l1) &&& 31)) &&& (63 : Int32))
section
variable {p : Program} {l : Launch} {e : Env} {s : State} {m : MethodId} {args : Array Value} {below : List Frame} {meth : Method} {c : Code} {D : va_G} {ay : Nat → ClassId} {ad : Nat → Nat}
set_option maxRecDepth 100000 in
set_option maxHeartbeats 4000000 in
theorem B_X11_rowOf_0 {H : Heap} {locs : List Loc} {ls : Array Slot} {r0 : Int32} (l0 : Int32) (l1 : Int32) (σ : hSt) (G : Gx p m c cX11_rowOf 2 s args RX11 D ay NC ad (aN NC ad)) (hm : meth.sig.returnType = (some .int) ∧ meth.locks = false)  (hf : F_X11_rowOf l0 l1 σ = some r0)  (w : Wd D ay kC NC ad (aN NC ad) s σ H locs) (hl : lv_has ls 2 [(0, .int l0), (1, .int l1)]) : W p l e (rmK 0 0) s m args below meth c H locs 0 0 (MQ below (cI D ay kC NC ad r0 σ) args s 0 0 (aN NC ad)) (F0 m 0 ls []) := by
  unfold F_X11_rowOf at hf
  refine lv_iload_n G.hx G.hb (dcs_get dec_X11_rowOf_0 0 rfl) rfl (lv_at hl 0 rfl) ?_
  refine lv_bipush (v := (6 : Int32)) G.hx G.hb (dcs_get dec_X11_rowOf_0 1 rfl) (by decide) ?_
  refine lv_iload_n G.hx G.hb (dcs_get dec_X11_rowOf_0 2 rfl) rfl (lv_at hl 1 rfl) ?_
  refine lv_imul G.hx G.hb (dcs_get dec_X11_rowOf_0 3 rfl) ?_
  refine lv_ishr G.hx G.hb (dcs_get dec_X11_rowOf_0 4 rfl) ?_
  refine lv_bipush (v := (63 : Int32)) G.hx G.hb (dcs_get dec_X11_rowOf_0 5 rfl) (by decide) ?_
  refine lv_iand G.hx G.hb (dcs_get dec_X11_rowOf_0 6 rfl) ?_
  have e9 := Option.some.inj hf
  exact r_iret G w hm e9 rfl (dcs_get dec_X11_rowOf_0 7 rfl)
end
set_option maxRecDepth 100000 in
set_option maxHeartbeats 4000000 in
theorem C_X11_rowOf {l : Launch} {D : va_G} {ay : Nat → ClassId} {ad : Nat → Nat} (hi : hInj NC ad) (l0 : Int32) (l1 : Int32) (σ : hSt) {r0 : Int32} (hf : F_X11_rowOf l0 l1 σ = some r0)  : hM l D ay kC NC ad yX11_rowOf cX11_rowOf 2 ((some .int)) (rmK 0 0) [.int l0, .int l1] σ (cI D ay kC NC ad r0 σ) := by
  refine hM_in (by decide) hi (Nat.le_of_ble_eq_true rfl) ?_
  intro p e s m below meth c G hm w ls hl
  exact B_X11_rowOf_0 l0 l1 σ G hm  hf w (lv_sub hl [0, 1] rfl)

/-! HillDrums.Text.allHills()I -/
def DL_X7_allHills_0 : List (Nat × Instr × Nat) := [(0, .iconst 1, 1), (1, .aload_n 0, 1), (2, .getfield 9, 3), (5, .ishl, 1), (6, .iconst 1, 1), (7, .isub, 1), (8, .ireturn, 1)]
set_option maxRecDepth 100000 in
theorem dec_X7_allHills_0 : dcs cX7_allHills DL_X7_allHills_0 = true := by decide +kernel
theorem lb_X7_allHills : lkB yX7_allHills cX7_allHills 1 ((some .int)) 0 := ⟨q_855, q_3, ⟨by decide, by decide⟩, by decide +kernel⟩
theorem lv_X7_allHills : lkV yX7_allHills := ⟨q_854, qs_52⟩
def F_X7_allHills (a0 : Nat) (σ : hSt) : Option (Int32) :=
some (((1 : Int32) <<< ((σ.1 a0 0) &&& 31)) - (1 : Int32))
section
variable {p : Program} {l : Launch} {e : Env} {s : State} {m : MethodId} {args : Array Value} {below : List Frame} {meth : Method} {c : Code} {D : va_G} {ay : Nat → ClassId} {ad : Nat → Nat}
set_option maxRecDepth 100000 in
set_option maxHeartbeats 4000000 in
theorem B_X7_allHills_0 {H : Heap} {locs : List Loc} {ls : Array Slot} {r0 : Int32} (a0 : Nat) (σ : hSt) (G : Gx p m c cX7_allHills 1 s args RX7 D ay NC ad (aN NC ad)) (hm : meth.sig.returnType = (some .int) ∧ meth.locks = false) (ok_a0 : okr kC NC 7 a0 = true) (hf : F_X7_allHills a0 σ = some r0)  (w : Wd D ay kC NC ad (aN NC ad) s σ H locs) (hl : lv_has ls 1 [(0, .ref (ad a0))]) : W p l e (rmK 0 0) s m args below meth c H locs 0 0 (MQ below (cI D ay kC NC ad r0 σ) args s 0 0 (aN NC ad)) (F0 m 0 ls []) := by
  have k_a0 := okr_in ok_a0
  unfold F_X7_allHills at hf
  refine lv_iconst (v := (1 : Int32)) G.hx G.hb (dcs_get dec_X7_allHills_0 0 rfl) (by decide) ?_
  refine lv_aload_n G.hx G.hb (dcs_get dec_X7_allHills_0 1 rfl) rfl (lv_at hl 0 rfl) ?_
  refine r_geti (k := 0) cls7 fi_7_0.1 fi_7_0.2 q_91 G w k_a0.1 k_a0.2 (dcs_get dec_X7_allHills_0 2 rfl) ?_
  refine lv_ishl G.hx G.hb (dcs_get dec_X7_allHills_0 3 rfl) ?_
  refine lv_iconst (v := (1 : Int32)) G.hx G.hb (dcs_get dec_X7_allHills_0 4 rfl) (by decide) ?_
  refine lv_isub G.hx G.hb (dcs_get dec_X7_allHills_0 5 rfl) ?_
  have e9 := Option.some.inj hf
  exact r_iret G w hm e9 rfl (dcs_get dec_X7_allHills_0 6 rfl)
end
set_option maxRecDepth 100000 in
set_option maxHeartbeats 4000000 in
theorem C_X7_allHills {l : Launch} {D : va_G} {ay : Nat → ClassId} {ad : Nat → Nat} (hi : hInj NC ad) (a0 : Nat) (σ : hSt) {r0 : Int32} (hf : F_X7_allHills a0 σ = some r0) (ok_a0 : okr kC NC 7 a0 = true) : hM l D ay kC NC ad yX7_allHills cX7_allHills 1 ((some .int)) (rmK 0 0) [.ref (ad a0)] σ (cI D ay kC NC ad r0 σ) := by
  refine hM_in (by decide) hi (Nat.le_of_ble_eq_true rfl) ?_
  intro p e s m below meth c G hm w ls hl
  exact B_X7_allHills_0 a0 σ G hm ok_a0 hf w (lv_sub hl [0] rfl)

/-! java/util/Arrays.fill([II)V -/
def DL_J7_fill_53178_0 : List (Nat × Instr × Nat) := [(0, .iconst 0, 1), (1, .istore_n 2, 1), (2, .aload_n 0, 1), (3, .arraylength, 1), (4, .istore_n 3, 1), (5, .iload_n 2, 1), (6, .iload_n 3, 1), (7, .if_icmp .ge 13, 3), (10, .aload_n 0, 1), (11, .iload_n 2, 1), (12, .iload_n 1, 1), (13, .iastore, 1), (14, .iinc 2 1, 3), (17, .goto (-12), 3), (20, .return_, 1)]
set_option maxRecDepth 100000 in
theorem dec_J7_fill_53178_0 : dcs cJ7_fill_53178 DL_J7_fill_53178_0 = true := by decide +kernel
theorem lb_J7_fill_53178 : lkB yJ7_fill_53178 cJ7_fill_53178 4 (none) 2 := ⟨q_379, q_13, ⟨by decide, by decide⟩, by decide +kernel⟩
def F_J7_fill_53178_5b (a0 : Nat) (l1 : Int32) (l2 : Int32) (l3 : Int32) (σ : hSt) : Option ((Int32 × hSt) ⊕ (hSt)) :=
if l3 ≤ l2 then (
some (.inr (σ))) else (
cG (inb l2 (kC a0).2) <|
cL (uI σ a0 l2.toNatClampNeg l1) fun σ2 =>
cL (l2 + (1 : Int32)) fun v3 =>
some (.inl (v3, σ2)))
def S_J7_fill_53178_5 (a0 : Nat) (l1 : Int32) (l3 : Int32) (v : Int32 × hSt) : Option ((Int32 × hSt) ⊕ (hSt)) := F_J7_fill_53178_5b a0 l1 v.1 l3 v.2
def F_J7_fill_53178_5 (a0 : Nat) (l1 : Int32) (l2 : Int32) (l3 : Int32) (σ : hSt) : Option (hSt) := lp (S_J7_fill_53178_5 a0 l1 l3) fuel (l2, σ)
def F_J7_fill_53178 (a0 : Nat) (l1 : Int32) (σ : hSt) : Option (hSt) :=
cL (Int32.ofNat (kC a0).2) fun v4 =>
F_J7_fill_53178_5 a0 l1 (0 : Int32) v4 σ
section
variable {p : Program} {l : Launch} {e : Env} {s : State} {m : MethodId} {args : Array Value} {below : List Frame} {meth : Method} {c : Code} {D : va_G} {ay : Nat → ClassId} {ad : Nat → Nat}
set_option maxRecDepth 100000 in
set_option maxHeartbeats 4000000 in
theorem B_J7_fill_53178_5b {H : Heap} {locs : List Loc} {ls : Array Slot} {σ0 : hSt} {o : (Int32 × hSt) ⊕ (hSt)} (a0 : Nat) (l1 : Int32) (l2 : Int32) (l3 : Int32) (σ : hSt) (G : Gx p m c cJ7_fill_53178 4 s args RJ7 D ay NC ad (aN NC ad)) (hm : meth.sig.returnType = none ∧ meth.locks = false) (ok_a0 : okr kC NC 101 a0 = true) (hf : F_J7_fill_53178_5b a0 l1 l2 l3 σ = some o) (hb0 : ∀ (v : Int32 × hSt), o = .inl v → ∀ (H : Heap) (locs : List Loc) (ls : Array Slot), Wd D ay kC NC ad (aN NC ad) s v.2 H locs → lv_has ls 4 [(0, .ref (ad a0)), (1, .int l1), (2, .int v.1), (3, .int l3)] → W p l e (rmK 0 0) s m args below meth c H locs 0 0 (MQ below (cV D ay kC NC ad σ0) args s 0 0 (aN NC ad)) (F0 m 5 ls [])) (hr : ∀ x, o = .inr (x) → x = σ0) (w : Wd D ay kC NC ad (aN NC ad) s σ H locs) (hl : lv_has ls 4 [(0, .ref (ad a0)), (1, .int l1), (2, .int l2), (3, .int l3)]) : W p l e (rmK 0 0) s m args below meth c H locs 0 0 (MQ below (cV D ay kC NC ad σ0) args s 0 0 (aN NC ad)) (F0 m 5 ls []) := by
  have k_a0 := okr_in ok_a0
  unfold F_J7_fill_53178_5b at hf
  refine lv_iload_n G.hx G.hb (dcs_get dec_J7_fill_53178_0 5 rfl) rfl (lv_at hl 2 rfl) ?_
  refine lv_iload_n G.hx G.hb (dcs_get dec_J7_fill_53178_0 6 rfl) rfl (lv_at hl 3 rfl) ?_
  refine lv_icmp_ge (tgt := 20) G.hx G.hb (dcs_get dec_J7_fill_53178_0 7 rfl) (by decide) (fun hc => ?_) (fun hc => ?_)
  · rw [if_pos hc] at hf
    have e9 := hr _ (Option.some.inj hf).symm
    exact r_vret G w hm e9 (dcs_get dec_J7_fill_53178_0 14 rfl)
  · rw [if_neg hc] at hf
    refine lv_aload_n G.hx G.hb (dcs_get dec_J7_fill_53178_0 8 rfl) rfl (lv_at hl 0 rfl) ?_
    refine lv_iload_n G.hx G.hb (dcs_get dec_J7_fill_53178_0 9 rfl) rfl (lv_at hl 2 rfl) ?_
    refine lv_iload_n G.hx G.hb (dcs_get dec_J7_fill_53178_0 10 rfl) rfl (lv_at hl 1 rfl) ?_
    obtain ⟨h1, hf⟩ := cG_some hf
    obtain ⟨σ2, e_σ2, hf⟩ := cL_some hf
    refine r_iast G w k_a0.1 k_a0.2 h1 (dcs_get dec_J7_fill_53178_0 11 rfl) (fun H locs w => ?_)
    have w := Wd.nm e_σ2 w
    obtain ⟨v3, e_v3, hf⟩ := cL_some hf
    refine lv_iinc (v := v3) (lv' := [(2, .int v3), (0, .ref (ad a0)), (1, .int l1), (3, .int l3)]) G.hx G.hb (dcs_get dec_J7_fill_53178_0 12 rfl) hl (k := 2) rfl (by rw [e_v3]; rfl) (by decide) rfl (fun ls hl => ?_)
    refine lv_goto (tgt := 5) G.hx G.hb (dcs_get dec_J7_fill_53178_0 13 rfl) (by decide) ?_
    exact hb0 _ (Option.some.inj hf).symm _ _ _ w (lv_sub hl [1, 2, 0, 3] rfl)
set_option maxRecDepth 100000 in
set_option maxHeartbeats 4000000 in
theorem H_J7_fill_53178_5 {σ0 : hSt} (a0 : Nat) (l1 : Int32) (l3 : Int32) (G : Gx p m c cJ7_fill_53178 4 s args RJ7 D ay NC ad (aN NC ad)) (hm : meth.sig.returnType = none ∧ meth.locks = false) (ok_a0 : okr kC NC 101 a0 = true)  : ∀ (k : Nat) (v : Int32 × hSt), lp (S_J7_fill_53178_5 a0 l1 l3) k v = some σ0 → ∀ (H : Heap) (locs : List Loc) (ls : Array Slot), Wd D ay kC NC ad (aN NC ad) s v.2 H locs → lv_has ls 4 [(0, .ref (ad a0)), (1, .int l1), (2, .int v.1), (3, .int l3)] → W p l e (rmK 0 0) s m args below meth c H locs 0 0 (MQ below (cV D ay kC NC ad σ0) args s 0 0 (aN NC ad)) (F0 m 5 ls []) := by
  intro k
  induction k with
  | zero => intro v hf; cases hf
  | succ k ih =>
    intro v hf H locs ls w hl
    obtain ⟨o1, h1, h2, h3⟩ := lp_some hf
    exact B_J7_fill_53178_5b a0 l1 v.1 l3 v.2 G hm ok_a0 h1  (fun v' e => ih v' (h2 v' e)) (fun x e => h3 x e) w hl
set_option maxRecDepth 100000 in
set_option maxHeartbeats 4000000 in
theorem B_J7_fill_53178_5 {H : Heap} {locs : List Loc} {ls : Array Slot} {σ0 : hSt} (a0 : Nat) (l1 : Int32) (l2 : Int32) (l3 : Int32) (σ : hSt) (G : Gx p m c cJ7_fill_53178 4 s args RJ7 D ay NC ad (aN NC ad)) (hm : meth.sig.returnType = none ∧ meth.locks = false) (ok_a0 : okr kC NC 101 a0 = true) (hf : F_J7_fill_53178_5 a0 l1 l2 l3 σ = some σ0)  (w : Wd D ay kC NC ad (aN NC ad) s σ H locs) (hl : lv_has ls 4 [(0, .ref (ad a0)), (1, .int l1), (2, .int l2), (3, .int l3)]) : W p l e (rmK 0 0) s m args below meth c H locs 0 0 (MQ below (cV D ay kC NC ad σ0) args s 0 0 (aN NC ad)) (F0 m 5 ls []) := by
  unfold F_J7_fill_53178_5 at hf
  exact H_J7_fill_53178_5 a0 l1 l3  G hm ok_a0  fuel (l2, σ) hf _ _ _ w hl
set_option maxRecDepth 100000 in
set_option maxHeartbeats 4000000 in
theorem B_J7_fill_53178_0 {H : Heap} {locs : List Loc} {ls : Array Slot} {σ0 : hSt} (a0 : Nat) (l1 : Int32) (σ : hSt) (G : Gx p m c cJ7_fill_53178 4 s args RJ7 D ay NC ad (aN NC ad)) (hm : meth.sig.returnType = none ∧ meth.locks = false) (ok_a0 : okr kC NC 101 a0 = true) (hf : F_J7_fill_53178 a0 l1 σ = some σ0)  (w : Wd D ay kC NC ad (aN NC ad) s σ H locs) (hl : lv_has ls 4 [(0, .ref (ad a0)), (1, .int l1)]) : W p l e (rmK 0 0) s m args below meth c H locs 0 0 (MQ below (cV D ay kC NC ad σ0) args s 0 0 (aN NC ad)) (F0 m 0 ls []) := by
  have k_a0 := okr_in ok_a0
  unfold F_J7_fill_53178 at hf
  refine lv_iconst (v := (0 : Int32)) G.hx G.hb (dcs_get dec_J7_fill_53178_0 0 rfl) (by decide) ?_
  refine lv_istore_n (lv' := [(2, .int (0 : Int32)), (0, .ref (ad a0)), (1, .int l1)]) G.hx G.hb (dcs_get dec_J7_fill_53178_0 1 rfl) rfl hl (by decide) rfl (fun ls hl => ?_)
  refine lv_aload_n G.hx G.hb (dcs_get dec_J7_fill_53178_0 2 rfl) rfl (lv_at hl 1 rfl) ?_
  refine r_alen (t0 := 1) k_a0.2 (by decide) rfl G w k_a0.1 (dcs_get dec_J7_fill_53178_0 3 rfl) ?_
  obtain ⟨v4, e_v4, hf⟩ := cL_some hf
  refine r_topi e_v4 ?_
  refine lv_istore_n (lv' := [(3, .int v4), (2, .int (0 : Int32)), (0, .ref (ad a0)), (1, .int l1)]) G.hx G.hb (dcs_get dec_J7_fill_53178_0 4 rfl) rfl hl (by decide) rfl (fun ls hl => ?_)
  exact B_J7_fill_53178_5 a0 l1 (0 : Int32) v4 σ G hm ok_a0 hf  w (lv_sub hl [2, 3, 1, 0] rfl)
end
set_option maxRecDepth 100000 in
set_option maxHeartbeats 4000000 in
theorem C_J7_fill_53178 {l : Launch} {D : va_G} {ay : Nat → ClassId} {ad : Nat → Nat} (hi : hInj NC ad) (a0 : Nat) (l1 : Int32) (σ : hSt) {σ0 : hSt} (hf : F_J7_fill_53178 a0 l1 σ = some σ0) (ok_a0 : okr kC NC 101 a0 = true) : hM l D ay kC NC ad yJ7_fill_53178 cJ7_fill_53178 4 (none) (rmK 0 0) [.ref (ad a0), .int l1] σ (cV D ay kC NC ad σ0) := by
  refine hM_in (by decide) hi (Nat.le_of_ble_eq_true rfl) ?_
  intro p e s m below meth c G hm w ls hl
  exact B_J7_fill_53178_0 a0 l1 σ G hm ok_a0 hf w (lv_sub hl [0, 1] rfl)

/-! java/lang/Integer.bitCount(I)I -/
def DL_J6_bitCount_0f7a4_0 : List (Nat × Instr × Nat) := [(0, .iload_n 0, 1), (1, .iload_n 0, 1), (2, .iconst 1, 1), (3, .iushr, 1), (4, .ldc_w 265, 3), (7, .iand, 1), (8, .isub, 1), (9, .istore_n 0, 1), (10, .iload_n 0, 1), (11, .ldc_w 266, 3), (14, .iand, 1), (15, .iload_n 0, 1), (16, .iconst 2, 1), (17, .iushr, 1), (18, .ldc_w 266, 3), (21, .iand, 1), (22, .iadd, 1), (23, .istore_n 0, 1), (24, .iload_n 0, 1), (25, .iload_n 0, 1), (26, .iconst 4, 1), (27, .iushr, 1), (28, .iadd, 1), (29, .ldc_w 267, 3), (32, .iand, 1), (33, .istore_n 0, 1), (34, .iload_n 0, 1), (35, .iload_n 0, 1), (36, .bipush 8, 2), (38, .iushr, 1), (39, .iadd, 1), (40, .istore_n 0, 1), (41, .iload_n 0, 1), (42, .iload_n 0, 1), (43, .bipush 16, 2), (45, .iushr, 1), (46, .iadd, 1), (47, .istore_n 0, 1), (48, .iload_n 0, 1), (49, .bipush 63, 2)]
set_option maxRecDepth 100000 in
theorem dec_J6_bitCount_0f7a4_0 : dcs cJ6_bitCount_0f7a4 DL_J6_bitCount_0f7a4_0 = true := by decide +kernel
def DL_J6_bitCount_0f7a4_1 : List (Nat × Instr × Nat) := [(51, .iand, 1), (52, .ireturn, 1)]
set_option maxRecDepth 100000 in
theorem dec_J6_bitCount_0f7a4_1 : dcs cJ6_bitCount_0f7a4 DL_J6_bitCount_0f7a4_1 = true := by decide +kernel
theorem lb_J6_bitCount_0f7a4 : lkB yJ6_bitCount_0f7a4 cJ6_bitCount_0f7a4 1 ((some .int)) 1 := ⟨q_785, q_22, ⟨by decide, by decide⟩, by decide +kernel⟩
def F_J6_bitCount_0f7a4 (l0 : Int32) (σ : hSt) : Option (Int32) :=
cL (l0 - (((l0.toUInt32 >>> ((1 : Int32).toUInt32 &&& Int32.toUInt32 31)).toInt32) &&& (1431655765 : Int32))) fun v1 =>
cL ((v1 &&& (858993459 : Int32)) + (((v1.toUInt32 >>> ((2 : Int32).toUInt32 &&& Int32.toUInt32 31)).toInt32) &&& (858993459 : Int32))) fun v2 =>
cL ((v2 + ((v2.toUInt32 >>> ((4 : Int32).toUInt32 &&& Int32.toUInt32 31)).toInt32)) &&& (252645135 : Int32)) fun v3 =>
cL (v3 + ((v3.toUInt32 >>> ((8 : Int32).toUInt32 &&& Int32.toUInt32 31)).toInt32)) fun v4 =>
cL (v4 + ((v4.toUInt32 >>> ((16 : Int32).toUInt32 &&& Int32.toUInt32 31)).toInt32)) fun v5 =>
some (v5 &&& (63 : Int32))
section
variable {p : Program} {l : Launch} {e : Env} {s : State} {m : MethodId} {args : Array Value} {below : List Frame} {meth : Method} {c : Code} {D : va_G} {ay : Nat → ClassId} {ad : Nat → Nat}
set_option maxRecDepth 100000 in
set_option maxHeartbeats 4000000 in
theorem B_J6_bitCount_0f7a4_0 {H : Heap} {locs : List Loc} {ls : Array Slot} {r0 : Int32} (l0 : Int32) (σ : hSt) (G : Gx p m c cJ6_bitCount_0f7a4 1 s args RJ6 D ay NC ad (aN NC ad)) (hm : meth.sig.returnType = (some .int) ∧ meth.locks = false)  (hf : F_J6_bitCount_0f7a4 l0 σ = some r0)  (w : Wd D ay kC NC ad (aN NC ad) s σ H locs) (hl : lv_has ls 1 [(0, .int l0)]) : W p l e (rmK 0 0) s m args below meth c H locs 0 0 (MQ below (cI D ay kC NC ad r0 σ) args s 0 0 (aN NC ad)) (F0 m 0 ls []) := by
  unfold F_J6_bitCount_0f7a4 at hf
  refine lv_iload_n G.hx G.hb (dcs_get dec_J6_bitCount_0f7a4_0 0 rfl) rfl (lv_at hl 0 rfl) ?_
  refine lv_iload_n G.hx G.hb (dcs_get dec_J6_bitCount_0f7a4_0 1 rfl) rfl (lv_at hl 0 rfl) ?_
  refine lv_iconst (v := (1 : Int32)) G.hx G.hb (dcs_get dec_J6_bitCount_0f7a4_0 2 rfl) (by decide) ?_
  refine lv_iushr G.hx G.hb (dcs_get dec_J6_bitCount_0f7a4_0 3 rfl) rfl ?_
  refine lv_ldcw G.hx G.hb G.hown (G.hts _ q_786) (dcs_get dec_J6_bitCount_0f7a4_0 4 rfl) ?_
  refine lv_iand G.hx G.hb (dcs_get dec_J6_bitCount_0f7a4_0 5 rfl) ?_
  refine lv_isub G.hx G.hb (dcs_get dec_J6_bitCount_0f7a4_0 6 rfl) ?_
  obtain ⟨v1, e_v1, hf⟩ := cL_some hf
  refine r_topi e_v1 ?_
  refine lv_istore_n (lv' := [(0, .int v1)]) G.hx G.hb (dcs_get dec_J6_bitCount_0f7a4_0 7 rfl) rfl hl (by decide) rfl (fun ls hl => ?_)
  refine lv_iload_n G.hx G.hb (dcs_get dec_J6_bitCount_0f7a4_0 8 rfl) rfl (lv_at hl 0 rfl) ?_
  refine lv_ldcw G.hx G.hb G.hown (G.hts _ q_787) (dcs_get dec_J6_bitCount_0f7a4_0 9 rfl) ?_
  refine lv_iand G.hx G.hb (dcs_get dec_J6_bitCount_0f7a4_0 10 rfl) ?_
  refine lv_iload_n G.hx G.hb (dcs_get dec_J6_bitCount_0f7a4_0 11 rfl) rfl (lv_at hl 0 rfl) ?_
  refine lv_iconst (v := (2 : Int32)) G.hx G.hb (dcs_get dec_J6_bitCount_0f7a4_0 12 rfl) (by decide) ?_
  refine lv_iushr G.hx G.hb (dcs_get dec_J6_bitCount_0f7a4_0 13 rfl) rfl ?_
  refine lv_ldcw G.hx G.hb G.hown (G.hts _ q_787) (dcs_get dec_J6_bitCount_0f7a4_0 14 rfl) ?_
  refine lv_iand G.hx G.hb (dcs_get dec_J6_bitCount_0f7a4_0 15 rfl) ?_
  refine lv_iadd G.hx G.hb (dcs_get dec_J6_bitCount_0f7a4_0 16 rfl) ?_
  obtain ⟨v2, e_v2, hf⟩ := cL_some hf
  refine r_topi e_v2 ?_
  refine lv_istore_n (lv' := [(0, .int v2)]) G.hx G.hb (dcs_get dec_J6_bitCount_0f7a4_0 17 rfl) rfl hl (by decide) rfl (fun ls hl => ?_)
  refine lv_iload_n G.hx G.hb (dcs_get dec_J6_bitCount_0f7a4_0 18 rfl) rfl (lv_at hl 0 rfl) ?_
  refine lv_iload_n G.hx G.hb (dcs_get dec_J6_bitCount_0f7a4_0 19 rfl) rfl (lv_at hl 0 rfl) ?_
  refine lv_iconst (v := (4 : Int32)) G.hx G.hb (dcs_get dec_J6_bitCount_0f7a4_0 20 rfl) (by decide) ?_
  refine lv_iushr G.hx G.hb (dcs_get dec_J6_bitCount_0f7a4_0 21 rfl) rfl ?_
  refine lv_iadd G.hx G.hb (dcs_get dec_J6_bitCount_0f7a4_0 22 rfl) ?_
  refine lv_ldcw G.hx G.hb G.hown (G.hts _ q_788) (dcs_get dec_J6_bitCount_0f7a4_0 23 rfl) ?_
  refine lv_iand G.hx G.hb (dcs_get dec_J6_bitCount_0f7a4_0 24 rfl) ?_
  obtain ⟨v3, e_v3, hf⟩ := cL_some hf
  refine r_topi e_v3 ?_
  refine lv_istore_n (lv' := [(0, .int v3)]) G.hx G.hb (dcs_get dec_J6_bitCount_0f7a4_0 25 rfl) rfl hl (by decide) rfl (fun ls hl => ?_)
  refine lv_iload_n G.hx G.hb (dcs_get dec_J6_bitCount_0f7a4_0 26 rfl) rfl (lv_at hl 0 rfl) ?_
  refine lv_iload_n G.hx G.hb (dcs_get dec_J6_bitCount_0f7a4_0 27 rfl) rfl (lv_at hl 0 rfl) ?_
  refine lv_bipush (v := (8 : Int32)) G.hx G.hb (dcs_get dec_J6_bitCount_0f7a4_0 28 rfl) (by decide) ?_
  refine lv_iushr G.hx G.hb (dcs_get dec_J6_bitCount_0f7a4_0 29 rfl) rfl ?_
  refine lv_iadd G.hx G.hb (dcs_get dec_J6_bitCount_0f7a4_0 30 rfl) ?_
  obtain ⟨v4, e_v4, hf⟩ := cL_some hf
  refine r_topi e_v4 ?_
  refine lv_istore_n (lv' := [(0, .int v4)]) G.hx G.hb (dcs_get dec_J6_bitCount_0f7a4_0 31 rfl) rfl hl (by decide) rfl (fun ls hl => ?_)
  refine lv_iload_n G.hx G.hb (dcs_get dec_J6_bitCount_0f7a4_0 32 rfl) rfl (lv_at hl 0 rfl) ?_
  refine lv_iload_n G.hx G.hb (dcs_get dec_J6_bitCount_0f7a4_0 33 rfl) rfl (lv_at hl 0 rfl) ?_
  refine lv_bipush (v := (16 : Int32)) G.hx G.hb (dcs_get dec_J6_bitCount_0f7a4_0 34 rfl) (by decide) ?_
  refine lv_iushr G.hx G.hb (dcs_get dec_J6_bitCount_0f7a4_0 35 rfl) rfl ?_
  refine lv_iadd G.hx G.hb (dcs_get dec_J6_bitCount_0f7a4_0 36 rfl) ?_
  obtain ⟨v5, e_v5, hf⟩ := cL_some hf
  refine r_topi e_v5 ?_
  refine lv_istore_n (lv' := [(0, .int v5)]) G.hx G.hb (dcs_get dec_J6_bitCount_0f7a4_0 37 rfl) rfl hl (by decide) rfl (fun ls hl => ?_)
  refine lv_iload_n G.hx G.hb (dcs_get dec_J6_bitCount_0f7a4_0 38 rfl) rfl (lv_at hl 0 rfl) ?_
  refine lv_bipush (v := (63 : Int32)) G.hx G.hb (dcs_get dec_J6_bitCount_0f7a4_0 39 rfl) (by decide) ?_
  refine lv_iand G.hx G.hb (dcs_get dec_J6_bitCount_0f7a4_1 0 rfl) ?_
  have e9 := Option.some.inj hf
  exact r_iret G w hm e9 rfl (dcs_get dec_J6_bitCount_0f7a4_1 1 rfl)
end
set_option maxRecDepth 100000 in
set_option maxHeartbeats 4000000 in
theorem C_J6_bitCount_0f7a4 {l : Launch} {D : va_G} {ay : Nat → ClassId} {ad : Nat → Nat} (hi : hInj NC ad) (l0 : Int32) (σ : hSt) {r0 : Int32} (hf : F_J6_bitCount_0f7a4 l0 σ = some r0)  : hM l D ay kC NC ad yJ6_bitCount_0f7a4 cJ6_bitCount_0f7a4 1 ((some .int)) (rmK 0 0) [.int l0] σ (cI D ay kC NC ad r0 σ) := by
  refine hM_in (by decide) hi (Nat.le_of_ble_eq_true rfl) ?_
  intro p e s m below meth c G hm w ls hl
  exact B_J6_bitCount_0f7a4_0 l0 σ G hm  hf w (lv_sub hl [0] rfl)

/-! HillDrums.Text.clear()V -/
def DL_X7_clear_0 : List (Nat × Instr × Nat) := [(0, .aload_n 0, 1), (1, .iconst 0, 1), (2, .putfield 9, 3), (5, .aload_n 0, 1), (6, .iconst 0, 1), (7, .putfield 22, 3), (10, .aload_n 0, 1), (11, .getfield 31, 3), (14, .invokevirtual 70, 3), (17, .aload_n 0, 1), (18, .getfield 38, 3), (21, .iconst 0, 1), (22, .putfield 73, 3), (25, .aload_n 0, 1), (26, .getfield 42, 3), (29, .iconst 0, 1), (30, .putfield 73, 3), (33, .aload_n 0, 1), (34, .iconst 1, 1), (35, .putfield 45, 3), (38, .aload_n 0, 1), (39, .iconst 0, 1), (40, .putfield 48, 3), (43, .aload_n 0, 1), (44, .getfield 67, 3), (47, .iconst (-1), 1), (48, .invokestatic 76, 3), (51, .return_, 1)]
set_option maxRecDepth 100000 in
theorem dec_X7_clear_0 : dcs cX7_clear DL_X7_clear_0 = true := by decide +kernel
theorem lb_X7_clear : lkB yX7_clear cX7_clear 1 (none) 0 := ⟨q_368, q_3, ⟨by decide, by decide⟩, by decide +kernel⟩
theorem lv_X7_clear : lkV yX7_clear := ⟨q_367, qs_0⟩
def F_X7_clear (a0 : Nat) (σ : hSt) : Option (hSt) :=
cL (uI σ a0 0 (0 : Int32)) fun σ1 =>
cL (uI σ1 a0 3 (0 : Int32)) fun σ2 =>
cR (σ2.2.2 a0 5) (okr kC NC 0) fun z3 =>
(F_X0_setUsual z3 σ2).bind fun σ5 =>
cR (σ5.2.2 a0 6) (okr kC NC 5) fun z6 =>
cL (uI σ5 z6 1 (0 : Int32)) fun σ7 =>
cR (σ7.2.2 a0 7) (okr kC NC 5) fun z8 =>
cL (uI σ7 z8 1 (0 : Int32)) fun σ9 =>
cL (uI σ9 a0 8 (1 : Int32)) fun σ10 =>
cL (uI σ10 a0 9 (0 : Int32)) fun σ11 =>
cR (σ11.2.2 a0 15) (okr kC NC 101) fun z12 =>
(F_J7_fill_53178 z12 (-1 : Int32) σ11).bind fun σ14 =>
some (σ14)
section
variable {p : Program} {l : Launch} {e : Env} {s : State} {m : MethodId} {args : Array Value} {below : List Frame} {meth : Method} {c : Code} {D : va_G} {ay : Nat → ClassId} {ad : Nat → Nat}
set_option maxRecDepth 100000 in
set_option maxHeartbeats 4000000 in
theorem B_X7_clear_0 {H : Heap} {locs : List Loc} {ls : Array Slot} {σ0 : hSt} (a0 : Nat) (σ : hSt) (G : Gx p m c cX7_clear 1 s args RX7 D ay NC ad (aN NC ad)) (hm : meth.sig.returnType = none ∧ meth.locks = false) (ok_a0 : okr kC NC 7 a0 = true) (hf : F_X7_clear a0 σ = some σ0)  (w : Wd D ay kC NC ad (aN NC ad) s σ H locs) (hl : lv_has ls 1 [(0, .ref (ad a0))]) : W p l e (rmK 2 41) s m args below meth c H locs 0 0 (MQ below (cV D ay kC NC ad σ0) args s 0 0 (aN NC ad)) (F0 m 0 ls []) := by
  have k_a0 := okr_in ok_a0
  unfold F_X7_clear at hf
  refine lv_aload_n G.hx G.hb (dcs_get dec_X7_clear_0 0 rfl) rfl (lv_at hl 0 rfl) ?_
  refine lv_iconst (v := (0 : Int32)) G.hx G.hb (dcs_get dec_X7_clear_0 1 rfl) (by decide) ?_
  obtain ⟨σ1, e_σ1, hf⟩ := cL_some hf
  refine r_puti (k := 0) cls7 ct7 fi_7_0.1 fi_7_0.2 fp_7_0.1 fp_7_0.2 q_91 rfl rfl G w k_a0.1 k_a0.2 (dcs_get dec_X7_clear_0 2 rfl) (fun H locs w => ?_)
  have w := Wd.nm e_σ1 w
  refine lv_aload_n G.hx G.hb (dcs_get dec_X7_clear_0 3 rfl) rfl (lv_at hl 0 rfl) ?_
  refine lv_iconst (v := (0 : Int32)) G.hx G.hb (dcs_get dec_X7_clear_0 4 rfl) (by decide) ?_
  obtain ⟨σ2, e_σ2, hf⟩ := cL_some hf
  refine r_puti (k := 3) cls7 ct7 fi_7_3.1 fi_7_3.2 fp_7_3.1 fp_7_3.2 q_101 rfl rfl G w k_a0.1 k_a0.2 (dcs_get dec_X7_clear_0 5 rfl) (fun H locs w => ?_)
  have w := Wd.nm e_σ2 w
  refine lv_aload_n G.hx G.hb (dcs_get dec_X7_clear_0 6 rfl) rfl (lv_at hl 0 rfl) ?_
  obtain ⟨z3, e_z3, ok_z3, hf⟩ := cR_some hf
  have k_z3 := okr_in ok_z3
  refine r_getr (k := 5) cls7 fi_7_5.1 fi_7_5.2 q_109 G w k_a0.1 k_a0.2 e_z3 (dcs_get dec_X7_clear_0 7 rfl) ?_
  obtain ⟨σ5, h4, hf⟩ := cB_some hf
  refine a_v (k_VN (As := []) (rest := []) cls0 lb_X0_setUsual lv_X0_setUsual nm_369 (C_X0_setUsual G.2.2.1 z3 σ2 h4 ok_z3) ⟨(Nat.le_of_ble_eq_true rfl), (Nat.le_of_ble_eq_true rfl)⟩ G w k_z3.1 k_z3.2 rfl rfl hl.1 (Nat.le_of_ble_eq_true rfl) (dcs_get dec_X7_clear_0 8 rfl) ⟨Nat.le_refl _, Nat.le_refl _⟩) G w (fun H locs w => ?_)
  refine lv_aload_n G.hx G.hb (dcs_get dec_X7_clear_0 9 rfl) rfl (lv_at hl 0 rfl) ?_
  obtain ⟨z6, e_z6, ok_z6, hf⟩ := cR_some hf
  have k_z6 := okr_in ok_z6
  refine r_getr (k := 6) cls7 fi_7_6.1 fi_7_6.2 q_111 G w k_a0.1 k_a0.2 e_z6 (dcs_get dec_X7_clear_0 10 rfl) ?_
  refine lv_iconst (v := (0 : Int32)) G.hx G.hb (dcs_get dec_X7_clear_0 11 rfl) (by decide) ?_
  obtain ⟨σ7, e_σ7, hf⟩ := cL_some hf
  refine r_putiN (k := 1) cls5 ct5 fi_5_1.1 fi_5_1.2 fp_5_1.1 fp_5_1.2 nf_83 rfl rfl G w k_z6.1 k_z6.2 (dcs_get dec_X7_clear_0 12 rfl) (fun H locs w => ?_)
  have w := Wd.nm e_σ7 w
  refine lv_aload_n G.hx G.hb (dcs_get dec_X7_clear_0 13 rfl) rfl (lv_at hl 0 rfl) ?_
  obtain ⟨z8, e_z8, ok_z8, hf⟩ := cR_some hf
  have k_z8 := okr_in ok_z8
  refine r_getr (k := 7) cls7 fi_7_7.1 fi_7_7.2 q_114 G w k_a0.1 k_a0.2 e_z8 (dcs_get dec_X7_clear_0 14 rfl) ?_
  refine lv_iconst (v := (0 : Int32)) G.hx G.hb (dcs_get dec_X7_clear_0 15 rfl) (by decide) ?_
  obtain ⟨σ9, e_σ9, hf⟩ := cL_some hf
  refine r_putiN (k := 1) cls5 ct5 fi_5_1.1 fi_5_1.2 fp_5_1.1 fp_5_1.2 nf_83 rfl rfl G w k_z8.1 k_z8.2 (dcs_get dec_X7_clear_0 16 rfl) (fun H locs w => ?_)
  have w := Wd.nm e_σ9 w
  refine lv_aload_n G.hx G.hb (dcs_get dec_X7_clear_0 17 rfl) rfl (lv_at hl 0 rfl) ?_
  refine lv_iconst (v := (1 : Int32)) G.hx G.hb (dcs_get dec_X7_clear_0 18 rfl) (by decide) ?_
  obtain ⟨σ10, e_σ10, hf⟩ := cL_some hf
  refine r_puti (k := 8) cls7 ct7 fi_7_8.1 fi_7_8.2 fp_7_8.1 fp_7_8.2 q_117 rfl rfl G w k_a0.1 k_a0.2 (dcs_get dec_X7_clear_0 19 rfl) (fun H locs w => ?_)
  have w := Wd.nm e_σ10 w
  refine lv_aload_n G.hx G.hb (dcs_get dec_X7_clear_0 20 rfl) rfl (lv_at hl 0 rfl) ?_
  refine lv_iconst (v := (0 : Int32)) G.hx G.hb (dcs_get dec_X7_clear_0 21 rfl) (by decide) ?_
  obtain ⟨σ11, e_σ11, hf⟩ := cL_some hf
  refine r_puti (k := 9) cls7 ct7 fi_7_9.1 fi_7_9.2 fp_7_9.1 fp_7_9.2 q_122 rfl rfl G w k_a0.1 k_a0.2 (dcs_get dec_X7_clear_0 22 rfl) (fun H locs w => ?_)
  have w := Wd.nm e_σ11 w
  refine lv_aload_n G.hx G.hb (dcs_get dec_X7_clear_0 23 rfl) rfl (lv_at hl 0 rfl) ?_
  obtain ⟨z12, e_z12, ok_z12, hf⟩ := cR_some hf
  have k_z12 := okr_in ok_z12
  refine r_getr (k := 15) cls7 fi_7_15.1 fi_7_15.2 q_137 G w k_a0.1 k_a0.2 e_z12 (dcs_get dec_X7_clear_0 24 rfl) ?_
  refine lv_iconst (v := (-1 : Int32)) G.hx G.hb (dcs_get dec_X7_clear_0 25 rfl) (by decide) ?_
  obtain ⟨σ14, h13, hf⟩ := cB_some hf
  refine a_v (k_S (As := [.ref (ad z12), .int (-1 : Int32)]) (rest := []) lb_J7_fill_53178 q_378 q_377 (C_J7_fill_53178 G.2.2.1 z12 (-1 : Int32) σ11 h13 ok_z12) ⟨(Nat.le_of_ble_eq_true rfl), (Nat.le_of_ble_eq_true rfl)⟩ G w rfl rfl hl.1 (Nat.le_of_ble_eq_true rfl) (dcs_get dec_X7_clear_0 26 rfl) ⟨Nat.le_refl _, Nat.le_refl _⟩) G w (fun H locs w => ?_)
  have e9 := Option.some.inj hf
  exact r_vret G w hm e9 (dcs_get dec_X7_clear_0 27 rfl)
end
set_option maxRecDepth 100000 in
set_option maxHeartbeats 4000000 in
theorem C_X7_clear {l : Launch} {D : va_G} {ay : Nat → ClassId} {ad : Nat → Nat} (hi : hInj NC ad) (a0 : Nat) (σ : hSt) {σ0 : hSt} (hf : F_X7_clear a0 σ = some σ0) (ok_a0 : okr kC NC 7 a0 = true) : hM l D ay kC NC ad yX7_clear cX7_clear 1 (none) (rmK 2 41) [.ref (ad a0)] σ (cV D ay kC NC ad σ0) := by
  refine hM_in (by decide) hi (Nat.le_of_ble_eq_true rfl) ?_
  intro p e s m below meth c G hm w ls hl
  exact B_X7_clear_0 a0 σ G hm ok_a0 hf w (lv_sub hl [0] rfl)

/-! HillDrums.Tape.byteAt(I)I -/
def DL_X6_byteAt_0 : List (Nat × Instr × Nat) := [(0, .iload_n 1, 1), (1, .ifCond .lt 31, 3), (4, .iload_n 1, 1), (5, .aload_n 0, 1), (6, .getfield 15, 3), (9, .if_icmp .ge 23, 3), (12, .iload_n 1, 1), (13, .sipush 2000, 3), (16, .if_icmp .ge 16, 3), (19, .aload_n 0, 1), (20, .getfield 9, 3), (23, .iload_n 1, 1), (24, .baload, 1), (25, .sipush 255, 3), (28, .iand, 1), (29, .goto 4, 3), (32, .iconst (-1), 1), (33, .ireturn, 1)]
set_option maxRecDepth 100000 in
theorem dec_X6_byteAt_0 : dcs cX6_byteAt DL_X6_byteAt_0 = true := by decide +kernel
theorem lb_X6_byteAt : lkB yX6_byteAt cX6_byteAt 2 ((some .int)) 1 := ⟨q_462, q_2, ⟨by decide, by decide⟩, by decide +kernel⟩
theorem lv_X6_byteAt : lkV yX6_byteAt := ⟨q_461, qs_8⟩
def F_X6_byteAt_33 (s0 : Int32) (σ : hSt) : Option (Int32) :=
some (s0)
def F_X6_byteAt_32  (σ : hSt) : Option (Int32) :=
F_X6_byteAt_33 (-1 : Int32) σ
def F_X6_byteAt (a0 : Nat) (l1 : Int32) (σ : hSt) : Option (Int32) :=
if l1 < 0 then (
F_X6_byteAt_32  σ) else (
if (σ.1 a0 1) ≤ l1 then (
F_X6_byteAt_32  σ) else (
if (2000 : Int32) ≤ l1 then (
F_X6_byteAt_32  σ) else (
cR (σ.2.2 a0 0) (okr kC NC 100) fun z1 =>
cG (inb l1 (kC z1).2) <|
F_X6_byteAt_33 ((σ.1 z1 l1.toNatClampNeg) &&& (255 : Int32)) σ)))
section
variable {p : Program} {l : Launch} {e : Env} {s : State} {m : MethodId} {args : Array Value} {below : List Frame} {meth : Method} {c : Code} {D : va_G} {ay : Nat → ClassId} {ad : Nat → Nat}
set_option maxRecDepth 100000 in
set_option maxHeartbeats 4000000 in
theorem B_X6_byteAt_33 {H : Heap} {locs : List Loc} {ls : Array Slot} {r0 : Int32} (s0 : Int32) (σ : hSt) (G : Gx p m c cX6_byteAt 2 s args RX6 D ay NC ad (aN NC ad)) (hm : meth.sig.returnType = (some .int) ∧ meth.locks = false)  (hf : F_X6_byteAt_33 s0 σ = some r0)  (w : Wd D ay kC NC ad (aN NC ad) s σ H locs) (hl : lv_has ls 2 []) : W p l e (rmK 0 0) s m args below meth c H locs 0 0 (MQ below (cI D ay kC NC ad r0 σ) args s 0 0 (aN NC ad)) (F0 m 33 ls [.int s0]) := by
  unfold F_X6_byteAt_33 at hf
  have e9 := Option.some.inj hf
  exact r_iret G w hm e9 rfl (dcs_get dec_X6_byteAt_0 17 rfl)
set_option maxRecDepth 100000 in
set_option maxHeartbeats 4000000 in
theorem B_X6_byteAt_32 {H : Heap} {locs : List Loc} {ls : Array Slot} {r0 : Int32}  (σ : hSt) (G : Gx p m c cX6_byteAt 2 s args RX6 D ay NC ad (aN NC ad)) (hm : meth.sig.returnType = (some .int) ∧ meth.locks = false)  (hf : F_X6_byteAt_32  σ = some r0)  (w : Wd D ay kC NC ad (aN NC ad) s σ H locs) (hl : lv_has ls 2 []) : W p l e (rmK 0 0) s m args below meth c H locs 0 0 (MQ below (cI D ay kC NC ad r0 σ) args s 0 0 (aN NC ad)) (F0 m 32 ls []) := by
  unfold F_X6_byteAt_32 at hf
  refine lv_iconst (v := (-1 : Int32)) G.hx G.hb (dcs_get dec_X6_byteAt_0 16 rfl) (by decide) ?_
  exact B_X6_byteAt_33 (-1 : Int32) σ G hm  hf  w (lv_sub hl [] rfl)
set_option maxRecDepth 100000 in
set_option maxHeartbeats 4000000 in
theorem B_X6_byteAt_0 {H : Heap} {locs : List Loc} {ls : Array Slot} {r0 : Int32} (a0 : Nat) (l1 : Int32) (σ : hSt) (G : Gx p m c cX6_byteAt 2 s args RX6 D ay NC ad (aN NC ad)) (hm : meth.sig.returnType = (some .int) ∧ meth.locks = false) (ok_a0 : okr kC NC 6 a0 = true) (hf : F_X6_byteAt a0 l1 σ = some r0)  (w : Wd D ay kC NC ad (aN NC ad) s σ H locs) (hl : lv_has ls 2 [(0, .ref (ad a0)), (1, .int l1)]) : W p l e (rmK 0 0) s m args below meth c H locs 0 0 (MQ below (cI D ay kC NC ad r0 σ) args s 0 0 (aN NC ad)) (F0 m 0 ls []) := by
  have k_a0 := okr_in ok_a0
  unfold F_X6_byteAt at hf
  refine lv_iload_n G.hx G.hb (dcs_get dec_X6_byteAt_0 0 rfl) rfl (lv_at hl 1 rfl) ?_
  refine lv_if_lt (tgt := 32) G.hx G.hb (dcs_get dec_X6_byteAt_0 1 rfl) (by decide) (fun hc => ?_) (fun hc => ?_)
  · rw [if_pos hc] at hf
    exact B_X6_byteAt_32  σ G hm  hf  w (lv_sub hl [] rfl)
  · rw [if_neg hc] at hf
    refine lv_iload_n G.hx G.hb (dcs_get dec_X6_byteAt_0 2 rfl) rfl (lv_at hl 1 rfl) ?_
    refine lv_aload_n G.hx G.hb (dcs_get dec_X6_byteAt_0 3 rfl) rfl (lv_at hl 0 rfl) ?_
    refine r_geti (k := 1) cls6 fi_6_1.1 fi_6_1.2 q_38 G w k_a0.1 k_a0.2 (dcs_get dec_X6_byteAt_0 4 rfl) ?_
    refine lv_icmp_ge (tgt := 32) G.hx G.hb (dcs_get dec_X6_byteAt_0 5 rfl) (by decide) (fun hc => ?_) (fun hc => ?_)
    · rw [if_pos hc] at hf
      exact B_X6_byteAt_32  σ G hm  hf  w (lv_sub hl [] rfl)
    · rw [if_neg hc] at hf
      refine lv_iload_n G.hx G.hb (dcs_get dec_X6_byteAt_0 6 rfl) rfl (lv_at hl 1 rfl) ?_
      refine lv_sipush (v := (2000 : Int32)) G.hx G.hb (dcs_get dec_X6_byteAt_0 7 rfl) (by decide) ?_
      refine lv_icmp_ge (tgt := 32) G.hx G.hb (dcs_get dec_X6_byteAt_0 8 rfl) (by decide) (fun hc => ?_) (fun hc => ?_)
      · rw [if_pos hc] at hf
        exact B_X6_byteAt_32  σ G hm  hf  w (lv_sub hl [] rfl)
      · rw [if_neg hc] at hf
        refine lv_aload_n G.hx G.hb (dcs_get dec_X6_byteAt_0 9 rfl) rfl (lv_at hl 0 rfl) ?_
        obtain ⟨z1, e_z1, ok_z1, hf⟩ := cR_some hf
        have k_z1 := okr_in ok_z1
        refine r_getr (k := 0) cls6 fi_6_0.1 fi_6_0.2 q_37 G w k_a0.1 k_a0.2 e_z1 (dcs_get dec_X6_byteAt_0 10 rfl) ?_
        refine lv_iload_n G.hx G.hb (dcs_get dec_X6_byteAt_0 11 rfl) rfl (lv_at hl 1 rfl) ?_
        obtain ⟨h2, hf⟩ := cG_some hf
        refine r_bald G w k_z1.1 k_z1.2 h2 (dcs_get dec_X6_byteAt_0 12 rfl) ?_
        refine lv_sipush (v := (255 : Int32)) G.hx G.hb (dcs_get dec_X6_byteAt_0 13 rfl) (by decide) ?_
        refine lv_iand G.hx G.hb (dcs_get dec_X6_byteAt_0 14 rfl) ?_
        refine lv_goto (tgt := 33) G.hx G.hb (dcs_get dec_X6_byteAt_0 15 rfl) (by decide) ?_
        exact B_X6_byteAt_33 ((σ.1 z1 l1.toNatClampNeg) &&& (255 : Int32)) σ G hm  hf  w (lv_sub hl [] rfl)
end
set_option maxRecDepth 100000 in
set_option maxHeartbeats 4000000 in
theorem C_X6_byteAt {l : Launch} {D : va_G} {ay : Nat → ClassId} {ad : Nat → Nat} (hi : hInj NC ad) (a0 : Nat) (l1 : Int32) (σ : hSt) {r0 : Int32} (hf : F_X6_byteAt a0 l1 σ = some r0) (ok_a0 : okr kC NC 6 a0 = true) : hM l D ay kC NC ad yX6_byteAt cX6_byteAt 2 ((some .int)) (rmK 0 0) [.ref (ad a0), .int l1] σ (cI D ay kC NC ad r0 σ) := by
  refine hM_in (by decide) hi (Nat.le_of_ble_eq_true rfl) ?_
  intro p e s m below meth c G hm w ls hl
  exact B_X6_byteAt_0 a0 l1 σ G hm ok_a0 hf w (lv_sub hl [0, 1] rfl)

/-! HillDrums.Tape.add(I)V -/
def DL_X6_add_0 : List (Nat × Instr × Nat) := [(0, .bipush 24, 2), (2, .istore_n 2, 1), (3, .iload_n 2, 1), (4, .ifCond .lt 42, 3), (7, .aload_n 0, 1), (8, .getfield 15, 3), (11, .sipush 2000, 3), (14, .if_icmp .ge 32, 3), (17, .aload_n 0, 1), (18, .getfield 9, 3), (21, .aload_n 0, 1), (22, .getfield 15, 3), (25, .iload_n 1, 1), (26, .iload_n 2, 1), (27, .ishr, 1), (28, .i2b, 1), (29, .bastore, 1), (30, .aload_n 0, 1), (31, .dup, 1), (32, .getfield 15, 3), (35, .iconst 1, 1), (36, .iadd, 1), (37, .putfield 15, 3), (40, .iinc 2 (-8), 3), (43, .goto (-40), 3), (46, .return_, 1)]
set_option maxRecDepth 100000 in
theorem dec_X6_add_0 : dcs cX6_add DL_X6_add_0 = true := by decide +kernel
theorem lb_X6_add : lkB yX6_add cX6_add 3 (none) 1 := ⟨q_438, q_2, ⟨by decide, by decide⟩, by decide +kernel⟩
theorem lv_X6_add : lkV yX6_add := ⟨q_437, qs_5⟩
def F_X6_add_46  (σ : hSt) : Option (hSt) :=
some (σ)
def F_X6_add_3b (a0 : Nat) (l1 : Int32) (l2 : Int32) (σ : hSt) : Option ((Int32 × hSt) ⊕ (hSt)) :=
if l2 < 0 then (
(F_X6_add_46  σ).map (fun x => .inr (x))) else (
if (2000 : Int32) ≤ (σ.1 a0 1) then (
(F_X6_add_46  σ).map (fun x => .inr (x))) else (
cR (σ.2.2 a0 0) (okr kC NC 100) fun z1 =>
cG (inb (σ.1 a0 1) (kC z1).2) <|
cL (uI σ z1 (σ.1 a0 1).toNatClampNeg (vp_nar .byte ((l1 >>> (l2 &&& 31)).toInt8.toInt32))) fun σ3 =>
cL (uI σ3 a0 1 ((σ3.1 a0 1) + (1 : Int32))) fun σ4 =>
cL (l2 + (-8 : Int32)) fun v5 =>
some (.inl (v5, σ4))))
def S_X6_add_3 (a0 : Nat) (l1 : Int32) (v : Int32 × hSt) : Option ((Int32 × hSt) ⊕ (hSt)) := F_X6_add_3b a0 l1 v.1 v.2
def F_X6_add_3 (a0 : Nat) (l1 : Int32) (l2 : Int32) (σ : hSt) : Option (hSt) := lp (S_X6_add_3 a0 l1) fuel (l2, σ)
def F_X6_add (a0 : Nat) (l1 : Int32) (σ : hSt) : Option (hSt) :=
F_X6_add_3 a0 l1 (24 : Int32) σ
section
variable {p : Program} {l : Launch} {e : Env} {s : State} {m : MethodId} {args : Array Value} {below : List Frame} {meth : Method} {c : Code} {D : va_G} {ay : Nat → ClassId} {ad : Nat → Nat}
set_option maxRecDepth 100000 in
set_option maxHeartbeats 4000000 in
theorem B_X6_add_46 {H : Heap} {locs : List Loc} {ls : Array Slot} {σ0 : hSt}  (σ : hSt) (G : Gx p m c cX6_add 3 s args RX6 D ay NC ad (aN NC ad)) (hm : meth.sig.returnType = none ∧ meth.locks = false)  (hf : F_X6_add_46  σ = some σ0)  (w : Wd D ay kC NC ad (aN NC ad) s σ H locs) (hl : lv_has ls 3 []) : W p l e (rmK 0 0) s m args below meth c H locs 0 0 (MQ below (cV D ay kC NC ad σ0) args s 0 0 (aN NC ad)) (F0 m 46 ls []) := by
  unfold F_X6_add_46 at hf
  have e9 := Option.some.inj hf
  exact r_vret G w hm e9 (dcs_get dec_X6_add_0 25 rfl)
set_option maxRecDepth 100000 in
set_option maxHeartbeats 4000000 in
theorem B_X6_add_3b {H : Heap} {locs : List Loc} {ls : Array Slot} {σ0 : hSt} {o : (Int32 × hSt) ⊕ (hSt)} (a0 : Nat) (l1 : Int32) (l2 : Int32) (σ : hSt) (G : Gx p m c cX6_add 3 s args RX6 D ay NC ad (aN NC ad)) (hm : meth.sig.returnType = none ∧ meth.locks = false) (ok_a0 : okr kC NC 6 a0 = true) (hf : F_X6_add_3b a0 l1 l2 σ = some o) (hb0 : ∀ (v : Int32 × hSt), o = .inl v → ∀ (H : Heap) (locs : List Loc) (ls : Array Slot), Wd D ay kC NC ad (aN NC ad) s v.2 H locs → lv_has ls 3 [(0, .ref (ad a0)), (1, .int l1), (2, .int v.1)] → W p l e (rmK 0 0) s m args below meth c H locs 0 0 (MQ below (cV D ay kC NC ad σ0) args s 0 0 (aN NC ad)) (F0 m 3 ls [])) (hr : ∀ x, o = .inr (x) → x = σ0) (w : Wd D ay kC NC ad (aN NC ad) s σ H locs) (hl : lv_has ls 3 [(0, .ref (ad a0)), (1, .int l1), (2, .int l2)]) : W p l e (rmK 0 0) s m args below meth c H locs 0 0 (MQ below (cV D ay kC NC ad σ0) args s 0 0 (aN NC ad)) (F0 m 3 ls []) := by
  have k_a0 := okr_in ok_a0
  unfold F_X6_add_3b at hf
  refine lv_iload_n G.hx G.hb (dcs_get dec_X6_add_0 2 rfl) rfl (lv_at hl 2 rfl) ?_
  refine lv_if_lt (tgt := 46) G.hx G.hb (dcs_get dec_X6_add_0 3 rfl) (by decide) (fun hc => ?_) (fun hc => ?_)
  · rw [if_pos hc] at hf
    obtain ⟨x9, h9, e9⟩ := map_some_inv hf
    subst e9
    have e8 := hr _ rfl
    rw [e8] at h9
    exact B_X6_add_46  σ G hm  h9 w (lv_sub hl [] rfl)
  · rw [if_neg hc] at hf
    refine lv_aload_n G.hx G.hb (dcs_get dec_X6_add_0 4 rfl) rfl (lv_at hl 0 rfl) ?_
    refine r_geti (k := 1) cls6 fi_6_1.1 fi_6_1.2 q_38 G w k_a0.1 k_a0.2 (dcs_get dec_X6_add_0 5 rfl) ?_
    refine lv_sipush (v := (2000 : Int32)) G.hx G.hb (dcs_get dec_X6_add_0 6 rfl) (by decide) ?_
    refine lv_icmp_ge (tgt := 46) G.hx G.hb (dcs_get dec_X6_add_0 7 rfl) (by decide) (fun hc => ?_) (fun hc => ?_)
    · rw [if_pos hc] at hf
      obtain ⟨x9, h9, e9⟩ := map_some_inv hf
      subst e9
      have e8 := hr _ rfl
      rw [e8] at h9
      exact B_X6_add_46  σ G hm  h9 w (lv_sub hl [] rfl)
    · rw [if_neg hc] at hf
      refine lv_aload_n G.hx G.hb (dcs_get dec_X6_add_0 8 rfl) rfl (lv_at hl 0 rfl) ?_
      obtain ⟨z1, e_z1, ok_z1, hf⟩ := cR_some hf
      have k_z1 := okr_in ok_z1
      refine r_getr (k := 0) cls6 fi_6_0.1 fi_6_0.2 q_37 G w k_a0.1 k_a0.2 e_z1 (dcs_get dec_X6_add_0 9 rfl) ?_
      refine lv_aload_n G.hx G.hb (dcs_get dec_X6_add_0 10 rfl) rfl (lv_at hl 0 rfl) ?_
      refine r_geti (k := 1) cls6 fi_6_1.1 fi_6_1.2 q_38 G w k_a0.1 k_a0.2 (dcs_get dec_X6_add_0 11 rfl) ?_
      refine lv_iload_n G.hx G.hb (dcs_get dec_X6_add_0 12 rfl) rfl (lv_at hl 1 rfl) ?_
      refine lv_iload_n G.hx G.hb (dcs_get dec_X6_add_0 13 rfl) rfl (lv_at hl 2 rfl) ?_
      refine lv_ishr G.hx G.hb (dcs_get dec_X6_add_0 14 rfl) ?_
      refine lv_i2b G.hx G.hb (dcs_get dec_X6_add_0 15 rfl) rfl ?_
      obtain ⟨h2, hf⟩ := cG_some hf
      obtain ⟨σ3, e_σ3, hf⟩ := cL_some hf
      refine r_bast G w k_z1.1 k_z1.2 h2 (dcs_get dec_X6_add_0 16 rfl) (fun H locs w => ?_)
      have w := Wd.nm e_σ3 w
      refine lv_aload_n G.hx G.hb (dcs_get dec_X6_add_0 17 rfl) rfl (lv_at hl 0 rfl) ?_
      refine lv_dup G.hx G.hb (dcs_get dec_X6_add_0 18 rfl) rfl ?_
      refine r_geti (k := 1) cls6 fi_6_1.1 fi_6_1.2 q_38 G w k_a0.1 k_a0.2 (dcs_get dec_X6_add_0 19 rfl) ?_
      refine lv_iconst (v := (1 : Int32)) G.hx G.hb (dcs_get dec_X6_add_0 20 rfl) (by decide) ?_
      refine lv_iadd G.hx G.hb (dcs_get dec_X6_add_0 21 rfl) ?_
      obtain ⟨σ4, e_σ4, hf⟩ := cL_some hf
      refine r_puti (k := 1) cls6 ct6 fi_6_1.1 fi_6_1.2 fp_6_1.1 fp_6_1.2 q_38 rfl rfl G w k_a0.1 k_a0.2 (dcs_get dec_X6_add_0 22 rfl) (fun H locs w => ?_)
      have w := Wd.nm e_σ4 w
      obtain ⟨v5, e_v5, hf⟩ := cL_some hf
      refine lv_iinc (v := v5) (lv' := [(2, .int v5), (0, .ref (ad a0)), (1, .int l1)]) G.hx G.hb (dcs_get dec_X6_add_0 23 rfl) hl (k := 2) rfl (by rw [e_v5]; rfl) (by decide) rfl (fun ls hl => ?_)
      refine lv_goto (tgt := 3) G.hx G.hb (dcs_get dec_X6_add_0 24 rfl) (by decide) ?_
      exact hb0 _ (Option.some.inj hf).symm _ _ _ w (lv_sub hl [1, 2, 0] rfl)
set_option maxRecDepth 100000 in
set_option maxHeartbeats 4000000 in
theorem H_X6_add_3 {σ0 : hSt} (a0 : Nat) (l1 : Int32) (G : Gx p m c cX6_add 3 s args RX6 D ay NC ad (aN NC ad)) (hm : meth.sig.returnType = none ∧ meth.locks = false) (ok_a0 : okr kC NC 6 a0 = true)  : ∀ (k : Nat) (v : Int32 × hSt), lp (S_X6_add_3 a0 l1) k v = some σ0 → ∀ (H : Heap) (locs : List Loc) (ls : Array Slot), Wd D ay kC NC ad (aN NC ad) s v.2 H locs → lv_has ls 3 [(0, .ref (ad a0)), (1, .int l1), (2, .int v.1)] → W p l e (rmK 0 0) s m args below meth c H locs 0 0 (MQ below (cV D ay kC NC ad σ0) args s 0 0 (aN NC ad)) (F0 m 3 ls []) := by
  intro k
  induction k with
  | zero => intro v hf; cases hf
  | succ k ih =>
    intro v hf H locs ls w hl
    obtain ⟨o1, h1, h2, h3⟩ := lp_some hf
    exact B_X6_add_3b a0 l1 v.1 v.2 G hm ok_a0 h1  (fun v' e => ih v' (h2 v' e)) (fun x e => h3 x e) w hl
set_option maxRecDepth 100000 in
set_option maxHeartbeats 4000000 in
theorem B_X6_add_3 {H : Heap} {locs : List Loc} {ls : Array Slot} {σ0 : hSt} (a0 : Nat) (l1 : Int32) (l2 : Int32) (σ : hSt) (G : Gx p m c cX6_add 3 s args RX6 D ay NC ad (aN NC ad)) (hm : meth.sig.returnType = none ∧ meth.locks = false) (ok_a0 : okr kC NC 6 a0 = true) (hf : F_X6_add_3 a0 l1 l2 σ = some σ0)  (w : Wd D ay kC NC ad (aN NC ad) s σ H locs) (hl : lv_has ls 3 [(0, .ref (ad a0)), (1, .int l1), (2, .int l2)]) : W p l e (rmK 0 0) s m args below meth c H locs 0 0 (MQ below (cV D ay kC NC ad σ0) args s 0 0 (aN NC ad)) (F0 m 3 ls []) := by
  unfold F_X6_add_3 at hf
  exact H_X6_add_3 a0 l1  G hm ok_a0  fuel (l2, σ) hf _ _ _ w hl
set_option maxRecDepth 100000 in
set_option maxHeartbeats 4000000 in
theorem B_X6_add_0 {H : Heap} {locs : List Loc} {ls : Array Slot} {σ0 : hSt} (a0 : Nat) (l1 : Int32) (σ : hSt) (G : Gx p m c cX6_add 3 s args RX6 D ay NC ad (aN NC ad)) (hm : meth.sig.returnType = none ∧ meth.locks = false) (ok_a0 : okr kC NC 6 a0 = true) (hf : F_X6_add a0 l1 σ = some σ0)  (w : Wd D ay kC NC ad (aN NC ad) s σ H locs) (hl : lv_has ls 3 [(0, .ref (ad a0)), (1, .int l1)]) : W p l e (rmK 0 0) s m args below meth c H locs 0 0 (MQ below (cV D ay kC NC ad σ0) args s 0 0 (aN NC ad)) (F0 m 0 ls []) := by
  have k_a0 := okr_in ok_a0
  unfold F_X6_add at hf
  refine lv_bipush (v := (24 : Int32)) G.hx G.hb (dcs_get dec_X6_add_0 0 rfl) (by decide) ?_
  refine lv_istore_n (lv' := [(2, .int (24 : Int32)), (0, .ref (ad a0)), (1, .int l1)]) G.hx G.hb (dcs_get dec_X6_add_0 1 rfl) rfl hl (by decide) rfl (fun ls hl => ?_)
  exact B_X6_add_3 a0 l1 (24 : Int32) σ G hm ok_a0 hf  w (lv_sub hl [1, 2, 0] rfl)
end
set_option maxRecDepth 100000 in
set_option maxHeartbeats 4000000 in
theorem C_X6_add {l : Launch} {D : va_G} {ay : Nat → ClassId} {ad : Nat → Nat} (hi : hInj NC ad) (a0 : Nat) (l1 : Int32) (σ : hSt) {σ0 : hSt} (hf : F_X6_add a0 l1 σ = some σ0) (ok_a0 : okr kC NC 6 a0 = true) : hM l D ay kC NC ad yX6_add cX6_add 3 (none) (rmK 0 0) [.ref (ad a0), .int l1] σ (cV D ay kC NC ad σ0) := by
  refine hM_in (by decide) hi (Nat.le_of_ble_eq_true rfl) ?_
  intro p e s m below meth c G hm w ls hl
  exact B_X6_add_0 a0 l1 σ G hm ok_a0 hf w (lv_sub hl [0, 1] rfl)
