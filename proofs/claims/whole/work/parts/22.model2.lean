/-! HillDrumsModel.keepsRow()V -/
def DL_X12_keepsRow_0 : List (Nat × Instr × Nat) := [(0, .iconst 0, 1), (1, .istore_n 1, 1), (2, .iload_n 1, 1), (3, .sipush 380, 3), (6, .if_icmp .ge 21, 3), (9, .aload_n 0, 1), (10, .getfield 125, 3), (13, .iload_n 1, 1), (14, .aload_n 0, 1), (15, .getfield 128, 3), (18, .iload_n 1, 1), (19, .iaload, 1), (20, .iastore, 1), (21, .iinc 1 1, 3), (24, .goto (-22), 3), (27, .return_, 1)]
set_option maxRecDepth 100000 in
theorem dec_X12_keepsRow_0 : dcs cX12_keepsRow DL_X12_keepsRow_0 = true := by decide +kernel
theorem lb_X12_keepsRow : lkB yX12_keepsRow cX12_keepsRow 2 (none) 0 := ⟨q_1008, q_14, ⟨by decide, by decide⟩, by decide +kernel⟩
theorem lv_X12_keepsRow : lkV yX12_keepsRow := ⟨q_1007, qs_66⟩
def F_X12_keepsRow_2b (a0 : Nat) (l1 : Int32) (σ : hSt) : Option ((Int32 × hSt) ⊕ (hSt)) :=
if (380 : Int32) ≤ l1 then (
some (.inr (σ))) else (
cR (σ.2.2 a0 53) (okr kM NM 101) fun z1 =>
cR (σ.2.2 a0 54) (okr kM NM 101) fun z2 =>
cG (inb l1 (kM z2).2) <|
cG (inb l1 (kM z1).2) <|
cL (uI σ z1 l1.toNatClampNeg (σ.1 z2 l1.toNatClampNeg)) fun σ5 =>
cL (l1 + (1 : Int32)) fun v6 =>
some (.inl (v6, σ5)))
def S_X12_keepsRow_2 (a0 : Nat) (v : Int32 × hSt) : Option ((Int32 × hSt) ⊕ (hSt)) := F_X12_keepsRow_2b a0 v.1 v.2
def F_X12_keepsRow_2 (a0 : Nat) (l1 : Int32) (σ : hSt) : Option (hSt) := lp (S_X12_keepsRow_2 a0) fuel (l1, σ)
def F_X12_keepsRow (a0 : Nat) (σ : hSt) : Option (hSt) :=
F_X12_keepsRow_2 a0 (0 : Int32) σ
section
variable {p : Program} {l : Launch} {e : Env} {s : State} {m : MethodId} {args : Array Value} {below : List Frame} {meth : Method} {c : Code} {D : va_G} {ay : Nat → ClassId} {ad : Nat → Nat}
set_option maxRecDepth 100000 in
set_option maxHeartbeats 4000000 in
theorem B_X12_keepsRow_2b {H : Heap} {locs : List Loc} {ls : Array Slot} {σ0 : hSt} {o : (Int32 × hSt) ⊕ (hSt)} (a0 : Nat) (l1 : Int32) (σ : hSt) (G : Gx p m c cX12_keepsRow 2 s args RX12 D ay NM ad (aN NM ad)) (hm : meth.sig.returnType = none ∧ meth.locks = false) (ok_a0 : okr kM NM 12 a0 = true) (hf : F_X12_keepsRow_2b a0 l1 σ = some o) (hb0 : ∀ (v : Int32 × hSt), o = .inl v → ∀ (H : Heap) (locs : List Loc) (ls : Array Slot), Wd D ay kM NM ad (aN NM ad) s v.2 H locs → lv_has ls 2 [(0, .ref (ad a0)), (1, .int v.1)] → W p l e (rmK 0 0) s m args below meth c H locs 0 0 (MQ below (cV D ay kM NM ad σ0) args s 0 0 (aN NM ad)) (F0 m 2 ls [])) (hr : ∀ x, o = .inr (x) → x = σ0) (w : Wd D ay kM NM ad (aN NM ad) s σ H locs) (hl : lv_has ls 2 [(0, .ref (ad a0)), (1, .int l1)]) : W p l e (rmK 0 0) s m args below meth c H locs 0 0 (MQ below (cV D ay kM NM ad σ0) args s 0 0 (aN NM ad)) (F0 m 2 ls []) := by
  have k_a0 := okr_in ok_a0
  unfold F_X12_keepsRow_2b at hf
  refine lv_iload_n G.hx G.hb (dcs_get dec_X12_keepsRow_0 2 rfl) rfl (lv_at hl 1 rfl) ?_
  refine lv_sipush (v := (380 : Int32)) G.hx G.hb (dcs_get dec_X12_keepsRow_0 3 rfl) (by decide) ?_
  refine lv_icmp_ge (tgt := 27) G.hx G.hb (dcs_get dec_X12_keepsRow_0 4 rfl) (by decide) (fun hc => ?_) (fun hc => ?_)
  · rw [if_pos hc] at hf
    have e9 := hr _ (Option.some.inj hf).symm
    exact r_vret G w hm e9 (dcs_get dec_X12_keepsRow_0 15 rfl)
  · rw [if_neg hc] at hf
    refine lv_aload_n G.hx G.hb (dcs_get dec_X12_keepsRow_0 5 rfl) rfl (lv_at hl 0 rfl) ?_
    obtain ⟨z1, e_z1, ok_z1, hf⟩ := cR_some hf
    have k_z1 := okr_in ok_z1
    refine r_getr (k := 53) cls12 fi_12_53.1 fi_12_53.2 q_1061 G w k_a0.1 k_a0.2 e_z1 (dcs_get dec_X12_keepsRow_0 6 rfl) ?_
    refine lv_iload_n G.hx G.hb (dcs_get dec_X12_keepsRow_0 7 rfl) rfl (lv_at hl 1 rfl) ?_
    refine lv_aload_n G.hx G.hb (dcs_get dec_X12_keepsRow_0 8 rfl) rfl (lv_at hl 0 rfl) ?_
    obtain ⟨z2, e_z2, ok_z2, hf⟩ := cR_some hf
    have k_z2 := okr_in ok_z2
    refine r_getr (k := 54) cls12 fi_12_54.1 fi_12_54.2 q_1062 G w k_a0.1 k_a0.2 e_z2 (dcs_get dec_X12_keepsRow_0 9 rfl) ?_
    refine lv_iload_n G.hx G.hb (dcs_get dec_X12_keepsRow_0 10 rfl) rfl (lv_at hl 1 rfl) ?_
    obtain ⟨h3, hf⟩ := cG_some hf
    refine r_iald G w k_z2.1 k_z2.2 h3 (dcs_get dec_X12_keepsRow_0 11 rfl) ?_
    obtain ⟨h4, hf⟩ := cG_some hf
    obtain ⟨σ5, e_σ5, hf⟩ := cL_some hf
    refine r_iast G w k_z1.1 k_z1.2 h4 (dcs_get dec_X12_keepsRow_0 12 rfl) (fun H locs w => ?_)
    have w := Wd.nm e_σ5 w
    obtain ⟨v6, e_v6, hf⟩ := cL_some hf
    refine lv_iinc (v := v6) (lv' := [(1, .int v6), (0, .ref (ad a0))]) G.hx G.hb (dcs_get dec_X12_keepsRow_0 13 rfl) hl (k := 1) rfl (by rw [e_v6]; rfl) (by decide) rfl (fun ls hl => ?_)
    refine lv_goto (tgt := 2) G.hx G.hb (dcs_get dec_X12_keepsRow_0 14 rfl) (by decide) ?_
    exact hb0 _ (Option.some.inj hf).symm _ _ _ w (lv_sub hl [1, 0] rfl)
set_option maxRecDepth 100000 in
set_option maxHeartbeats 4000000 in
theorem H_X12_keepsRow_2 {σ0 : hSt} (a0 : Nat) (G : Gx p m c cX12_keepsRow 2 s args RX12 D ay NM ad (aN NM ad)) (hm : meth.sig.returnType = none ∧ meth.locks = false) (ok_a0 : okr kM NM 12 a0 = true)  : ∀ (k : Nat) (v : Int32 × hSt), lp (S_X12_keepsRow_2 a0) k v = some σ0 → ∀ (H : Heap) (locs : List Loc) (ls : Array Slot), Wd D ay kM NM ad (aN NM ad) s v.2 H locs → lv_has ls 2 [(0, .ref (ad a0)), (1, .int v.1)] → W p l e (rmK 0 0) s m args below meth c H locs 0 0 (MQ below (cV D ay kM NM ad σ0) args s 0 0 (aN NM ad)) (F0 m 2 ls []) := by
  intro k
  induction k with
  | zero => intro v hf; cases hf
  | succ k ih =>
    intro v hf H locs ls w hl
    obtain ⟨o1, h1, h2, h3⟩ := lp_some hf
    exact B_X12_keepsRow_2b a0 v.1 v.2 G hm ok_a0 h1  (fun v' e => ih v' (h2 v' e)) (fun x e => h3 x e) w hl
set_option maxRecDepth 100000 in
set_option maxHeartbeats 4000000 in
theorem B_X12_keepsRow_2 {H : Heap} {locs : List Loc} {ls : Array Slot} {σ0 : hSt} (a0 : Nat) (l1 : Int32) (σ : hSt) (G : Gx p m c cX12_keepsRow 2 s args RX12 D ay NM ad (aN NM ad)) (hm : meth.sig.returnType = none ∧ meth.locks = false) (ok_a0 : okr kM NM 12 a0 = true) (hf : F_X12_keepsRow_2 a0 l1 σ = some σ0)  (w : Wd D ay kM NM ad (aN NM ad) s σ H locs) (hl : lv_has ls 2 [(0, .ref (ad a0)), (1, .int l1)]) : W p l e (rmK 0 0) s m args below meth c H locs 0 0 (MQ below (cV D ay kM NM ad σ0) args s 0 0 (aN NM ad)) (F0 m 2 ls []) := by
  unfold F_X12_keepsRow_2 at hf
  exact H_X12_keepsRow_2 a0  G hm ok_a0  fuel (l1, σ) hf _ _ _ w hl
set_option maxRecDepth 100000 in
set_option maxHeartbeats 4000000 in
theorem B_X12_keepsRow_0 {H : Heap} {locs : List Loc} {ls : Array Slot} {σ0 : hSt} (a0 : Nat) (σ : hSt) (G : Gx p m c cX12_keepsRow 2 s args RX12 D ay NM ad (aN NM ad)) (hm : meth.sig.returnType = none ∧ meth.locks = false) (ok_a0 : okr kM NM 12 a0 = true) (hf : F_X12_keepsRow a0 σ = some σ0)  (w : Wd D ay kM NM ad (aN NM ad) s σ H locs) (hl : lv_has ls 2 [(0, .ref (ad a0))]) : W p l e (rmK 0 0) s m args below meth c H locs 0 0 (MQ below (cV D ay kM NM ad σ0) args s 0 0 (aN NM ad)) (F0 m 0 ls []) := by
  have k_a0 := okr_in ok_a0
  unfold F_X12_keepsRow at hf
  refine lv_iconst (v := (0 : Int32)) G.hx G.hb (dcs_get dec_X12_keepsRow_0 0 rfl) (by decide) ?_
  refine lv_istore_n (lv' := [(1, .int (0 : Int32)), (0, .ref (ad a0))]) G.hx G.hb (dcs_get dec_X12_keepsRow_0 1 rfl) rfl hl (by decide) rfl (fun ls hl => ?_)
  exact B_X12_keepsRow_2 a0 (0 : Int32) σ G hm ok_a0 hf  w (lv_sub hl [1, 0] rfl)
end
set_option maxRecDepth 100000 in
set_option maxHeartbeats 4000000 in
theorem C_X12_keepsRow {l : Launch} {D : va_G} {ay : Nat → ClassId} {ad : Nat → Nat} (hi : hInj NM ad) (a0 : Nat) (σ : hSt) {σ0 : hSt} (hf : F_X12_keepsRow a0 σ = some σ0) (ok_a0 : okr kM NM 12 a0 = true) : hM l D ay kM NM ad yX12_keepsRow cX12_keepsRow 2 (none) (rmK 0 0) [.ref (ad a0)] σ (cV D ay kM NM ad σ0) := by
  refine hM_in (by decide) hi (Nat.le_of_ble_eq_true rfl) ?_
  intro p e s m below meth c G hm w ls hl
  exact B_X12_keepsRow_0 a0 σ G hm ok_a0 hf w (lv_sub hl [0] rfl)

/-! HillDrumsModel.read()I -/
def DL_X12_read_0 : List (Nat × Instr × Nat) := [(0, .aload_n 0, 1), (1, .aload_n 0, 1), (2, .getfield 168, 3), (5, .putfield 175, 3), (8, .iconst 0, 1), (9, .istore_n 1, 1), (10, .iload_n 1, 1), (11, .aload_n 0, 1), (12, .getfield 175, 3), (15, .if_icmp .ge 21, 3), (18, .aload_n 0, 1), (19, .getfield 17, 3), (22, .iload_n 1, 1), (23, .aload_n 0, 1), (24, .getfield 13, 3), (27, .iload_n 1, 1), (28, .baload, 1), (29, .bastore, 1), (30, .iinc 1 1, 3), (33, .goto (-23), 3), (36, .aload_n 0, 1), (37, .iconst 0, 1), (38, .putfield 168, 3), (41, .aload_n 0, 1), (42, .invokevirtual 230, 3), (45, .aload_n 0, 1), (46, .iconst 0, 1), (47, .putfield 209, 3), (50, .aload_n 0, 1), (51, .iconst 0, 1), (52, .putfield 233, 3), (55, .aload_n 0, 1), (56, .iconst 0, 1), (57, .putfield 206, 3), (60, .aload_n 0, 1), (61, .iconst 0, 1), (62, .putfield 215, 3), (65, .aload_n 0, 1), (66, .iconst 1, 1), (67, .aload_n 0, 1)]
set_option maxRecDepth 100000 in
theorem dec_X12_read_0 : dcs cX12_read DL_X12_read_0 = true := by decide +kernel
def DL_X12_read_1 : List (Nat × Instr × Nat) := [(68, .getfield 236, 3), (71, .isub, 1), (72, .putfield 239, 3), (75, .aload_n 0, 1), (76, .iconst 0, 1), (77, .putfield 242, 3), (80, .aload_n 0, 1), (81, .getfield 49, 3), (84, .aload_n 0, 1), (85, .getfield 239, 3), (88, .iconst 0, 1), (89, .iastore, 1), (90, .aload_n 0, 1), (91, .getfield 58, 3), (94, .aload_n 0, 1), (95, .getfield 239, 3), (98, .iconst 0, 1), (99, .iastore, 1), (100, .aload_n 0, 1), (101, .getfield 64, 3), (104, .iconst 2, 1), (105, .aload_n 0, 1), (106, .getfield 239, 3), (109, .imul, 1), (110, .iconst 0, 1), (111, .iastore, 1), (112, .aload_n 0, 1), (113, .getfield 64, 3), (116, .iconst 2, 1), (117, .aload_n 0, 1), (118, .getfield 239, 3), (121, .imul, 1), (122, .iconst 1, 1), (123, .iadd, 1), (124, .iconst 0, 1), (125, .iastore, 1), (126, .aload_n 0, 1), (127, .getfield 70, 3), (130, .aload_n 0, 1), (131, .getfield 239, 3)]
set_option maxRecDepth 100000 in
theorem dec_X12_read_1 : dcs cX12_read DL_X12_read_1 = true := by decide +kernel
def DL_X12_read_2 : List (Nat × Instr × Nat) := [(134, .iconst 1, 1), (135, .iastore, 1), (136, .aload_n 0, 1), (137, .getfield 73, 3), (140, .aload_n 0, 1), (141, .getfield 239, 3), (144, .iconst 0, 1), (145, .iastore, 1), (146, .aload_n 0, 1), (147, .sipush 130, 3), (150, .aload_n 0, 1), (151, .getfield 239, 3), (154, .imul, 1), (155, .putfield 245, 3), (158, .aload_n 0, 1), (159, .sipush 420, 3), (162, .aload_n 0, 1), (163, .getfield 239, 3), (166, .imul, 1), (167, .putfield 248, 3), (170, .aload_n 0, 1), (171, .getfield 85, 3), (174, .aload_n 0, 1), (175, .getfield 239, 3), (178, .iconst 0, 1), (179, .iastore, 1), (180, .aload_n 0, 1), (181, .getfield 88, 3), (184, .aload_n 0, 1), (185, .getfield 239, 3), (188, .iconst 0, 1), (189, .iastore, 1), (190, .aload_n 0, 1), (191, .getfield 206, 3), (194, .ifCond .ne 18, 3), (197, .aload_n 0, 1), (198, .iconst 0, 1), (199, .invokevirtual 224, 3), (202, .ifCond .ne 10, 3), (205, .aload_n 0, 1)]
set_option maxRecDepth 100000 in
theorem dec_X12_read_2 : dcs cX12_read DL_X12_read_2 = true := by decide +kernel
def DL_X12_read_3 : List (Nat × Instr × Nat) := [(206, .invokevirtual 251, 3), (209, .goto (-19), 3), (212, .aload_n 0, 1), (213, .aload_n 0, 1), (214, .getfield 206, 3), (217, .ifCond .le 10, 3), (220, .aload_n 0, 1), (221, .getfield 212, 3), (224, .goto 18, 3), (227, .aload_n 0, 1), (228, .getfield 215, 3), (231, .ifCond .le 10, 3), (234, .aload_n 0, 1), (235, .getfield 218, 3), (238, .goto 4, 3), (241, .iconst (-1), 1), (242, .putfield 37, 3), (245, .aload_n 0, 1), (246, .getfield 206, 3), (249, .ifCond .le 8, 3), (252, .aload_n 0, 1), (253, .getfield 206, 3), (256, .ireturn, 1), (257, .aload_n 0, 1), (258, .getfield 215, 3), (261, .ifCond .le 8, 3), (264, .aload_n 0, 1), (265, .getfield 215, 3), (268, .ireturn, 1), (269, .aload_n 0, 1), (270, .aload_n 0, 1), (271, .getfield 239, 3), (274, .putfield 236, 3), (277, .aload_n 0, 1), (278, .invokevirtual 162, 3), (281, .aload_n 0, 1), (282, .invokevirtual 165, 3), (285, .aload_n 0, 1), (286, .iconst 0, 1), (287, .putfield 254, 3)]
set_option maxRecDepth 100000 in
theorem dec_X12_read_3 : dcs cX12_read DL_X12_read_3 = true := by decide +kernel
def DL_X12_read_4 : List (Nat × Instr × Nat) := [(290, .aload_n 0, 1), (291, .iconst 0, 1), (292, .putfield 257, 3), (295, .iconst 0, 1), (296, .istore_n 1, 1), (297, .iload_n 1, 1), (298, .iconst 3, 1), (299, .if_icmp .ge 16, 3), (302, .aload_n 0, 1), (303, .getfield 152, 3), (306, .iload_n 1, 1), (307, .iconst 0, 1), (308, .bastore, 1), (309, .iinc 1 1, 3), (312, .goto (-15), 3), (315, .iconst 0, 1), (316, .ireturn, 1)]
set_option maxRecDepth 100000 in
theorem dec_X12_read_4 : dcs cX12_read DL_X12_read_4 = true := by decide +kernel
theorem lb_X12_read : lkB yX12_read cX12_read 2 ((some .int)) 0 := ⟨q_1231, q_14, ⟨by decide, by decide⟩, by decide +kernel⟩
theorem lv_X12_read : lkV yX12_read := ⟨q_1229, q_1230⟩
def F_X12_read_297b (a0 : Nat) (l1 : Int32) (σ : hSt) : Option ((Int32 × hSt) ⊕ (Int32 × hSt)) :=
if (3 : Int32) ≤ l1 then (
some (.inr (((0 : Int32), σ)))) else (
cR (σ.2.2 a0 67) (okr kM NM 102) fun z1 =>
cG (inb l1 (kM z1).2) <|
cL (uI σ z1 l1.toNatClampNeg (vp_nar .boolean (0 : Int32))) fun σ3 =>
cL (l1 + (1 : Int32)) fun v4 =>
some (.inl (v4, σ3)))
def S_X12_read_297 (a0 : Nat) (v : Int32 × hSt) : Option ((Int32 × hSt) ⊕ (Int32 × hSt)) := F_X12_read_297b a0 v.1 v.2
def F_X12_read_297 (a0 : Nat) (l1 : Int32) (σ : hSt) : Option (Int32 × hSt) := lp (S_X12_read_297 a0) fuel (l1, σ)
def F_X12_read_242 (a0 : Nat) (s0 : Nat) (s1 : Int32) (σ : hSt) : Option (Int32 × hSt) :=
cL (uI σ s0 17 s1) fun σ5 =>
if (σ5.1 a0 13) ≤ 0 then (
if (σ5.1 a0 15) ≤ 0 then (
cL (uI σ5 a0 18 (σ5.1 a0 19)) fun σ6 =>
(F_X12_begins a0 σ6).bind fun σ8 =>
(F_X12_keepsRow a0 σ8).bind fun σ10 =>
cL (uI σ10 a0 57 (0 : Int32)) fun σ11 =>
cL (uI σ11 a0 63 (0 : Int32)) fun σ12 =>
F_X12_read_297 a0 (0 : Int32) σ12) else (
some ((σ5.1 a0 15, σ5)))) else (
some ((σ5.1 a0 13, σ5)))
def F_X12_read_212 (a0 : Nat) (σ : hSt) : Option (Int32 × hSt) :=
if (σ.1 a0 13) ≤ 0 then (
if (σ.1 a0 15) ≤ 0 then (
F_X12_read_242 a0 a0 (-1 : Int32) σ) else (
F_X12_read_242 a0 a0 (σ.1 a0 16) σ)) else (
F_X12_read_242 a0 a0 (σ.1 a0 14) σ)
def F_X12_read_190b (a0 : Nat) (σ : hSt) : Option ((hSt) ⊕ (Int32 × hSt)) :=
if (σ.1 a0 13) = 0 then (
(F_X12_is a0 (0 : Int32) σ).bind fun v14 =>
if v14 = 0 then (
(F_X12_tell a0 σ).bind fun σ16 =>
some (.inl (σ16))) else (
(F_X12_read_212 a0 σ).map (fun x => .inr (x)))) else (
(F_X12_read_212 a0 σ).map (fun x => .inr (x)))
def S_X12_read_190 (a0 : Nat) (v : hSt) : Option ((hSt) ⊕ (Int32 × hSt)) := F_X12_read_190b a0 v
def F_X12_read_190 (a0 : Nat) (σ : hSt) : Option (Int32 × hSt) := lp (S_X12_read_190 a0) fuel (σ)
def F_X12_read_10b (a0 : Nat) (l1 : Int32) (σ : hSt) : Option ((Int32 × hSt) ⊕ (Int32 × hSt)) :=
if (σ.1 a0 4) ≤ l1 then (
cL (uI σ a0 2 (0 : Int32)) fun σ17 =>
(F_X12_cut a0 σ17).bind fun σ19 =>
cL (uI σ19 a0 11 (0 : Int32)) fun σ20 =>
cL (uI σ20 a0 12 (0 : Int32)) fun σ21 =>
cL (uI σ21 a0 13 (0 : Int32)) fun σ22 =>
cL (uI σ22 a0 15 (0 : Int32)) fun σ23 =>
cL (uI σ23 a0 19 ((1 : Int32) - (σ23.1 a0 18))) fun σ24 =>
cL (uI σ24 a0 20 (0 : Int32)) fun σ25 =>
cR (σ25.2.2 a0 24) (okr kM NM 101) fun z26 =>
cG (inb (σ25.1 a0 19) (kM z26).2) <|
cL (uI σ25 z26 (σ25.1 a0 19).toNatClampNeg (0 : Int32)) fun σ28 =>
cR (σ28.2.2 a0 27) (okr kM NM 101) fun z29 =>
cG (inb (σ28.1 a0 19) (kM z29).2) <|
cL (uI σ28 z29 (σ28.1 a0 19).toNatClampNeg (0 : Int32)) fun σ31 =>
cR (σ31.2.2 a0 29) (okr kM NM 101) fun z32 =>
cG (inb ((2 : Int32) * (σ31.1 a0 19)) (kM z32).2) <|
cL (uI σ31 z32 ((2 : Int32) * (σ31.1 a0 19)).toNatClampNeg (0 : Int32)) fun σ34 =>
cR (σ34.2.2 a0 29) (okr kM NM 101) fun z35 =>
cG (inb (((2 : Int32) * (σ34.1 a0 19)) + (1 : Int32)) (kM z35).2) <|
cL (uI σ34 z35 (((2 : Int32) * (σ34.1 a0 19)) + (1 : Int32)).toNatClampNeg (0 : Int32)) fun σ37 =>
cR (σ37.2.2 a0 31) (okr kM NM 101) fun z38 =>
cG (inb (σ37.1 a0 19) (kM z38).2) <|
cL (uI σ37 z38 (σ37.1 a0 19).toNatClampNeg (1 : Int32)) fun σ40 =>
cR (σ40.2.2 a0 32) (okr kM NM 101) fun z41 =>
cG (inb (σ40.1 a0 19) (kM z41).2) <|
cL (uI σ40 z41 (σ40.1 a0 19).toNatClampNeg (0 : Int32)) fun σ43 =>
cL (uI σ43 a0 38 ((130 : Int32) * (σ43.1 a0 19))) fun σ44 =>
cL (uI σ44 a0 44 ((420 : Int32) * (σ44.1 a0 19))) fun σ45 =>
cR (σ45.2.2 a0 36) (okr kM NM 101) fun z46 =>
cG (inb (σ45.1 a0 19) (kM z46).2) <|
cL (uI σ45 z46 (σ45.1 a0 19).toNatClampNeg (0 : Int32)) fun σ48 =>
cR (σ48.2.2 a0 37) (okr kM NM 101) fun z49 =>
cG (inb (σ48.1 a0 19) (kM z49).2) <|
cL (uI σ48 z49 (σ48.1 a0 19).toNatClampNeg (0 : Int32)) fun σ51 =>
(F_X12_read_190 a0 σ51).map (fun x => .inr (x))) else (
cR (σ.2.2 a0 3) (okr kM NM 100) fun z52 =>
cR (σ.2.2 a0 1) (okr kM NM 100) fun z53 =>
cG (inb l1 (kM z53).2) <|
cG (inb l1 (kM z52).2) <|
cL (uI σ z52 l1.toNatClampNeg (vp_nar .byte (σ.1 z53 l1.toNatClampNeg))) fun σ56 =>
cL (l1 + (1 : Int32)) fun v57 =>
some (.inl (v57, σ56)))
def S_X12_read_10 (a0 : Nat) (v : Int32 × hSt) : Option ((Int32 × hSt) ⊕ (Int32 × hSt)) := F_X12_read_10b a0 v.1 v.2
def F_X12_read_10 (a0 : Nat) (l1 : Int32) (σ : hSt) : Option (Int32 × hSt) := lp (S_X12_read_10 a0) fuel (l1, σ)
def F_X12_read (a0 : Nat) (σ : hSt) : Option (Int32 × hSt) :=
cL (uI σ a0 4 (σ.1 a0 2)) fun σ58 =>
F_X12_read_10 a0 (0 : Int32) σ58
section
variable {p : Program} {l : Launch} {e : Env} {s : State} {m : MethodId} {args : Array Value} {below : List Frame} {meth : Method} {c : Code} {D : va_G} {ay : Nat → ClassId} {ad : Nat → Nat}
set_option maxRecDepth 100000 in
set_option maxHeartbeats 4000000 in
theorem B_X12_read_297b {H : Heap} {locs : List Loc} {ls : Array Slot} {r0 : Int32} {σ0 : hSt} {o : (Int32 × hSt) ⊕ (Int32 × hSt)} (a0 : Nat) (l1 : Int32) (σ : hSt) (G : Gx p m c cX12_read 2 s args RX12 D ay NM ad (aN NM ad)) (hm : meth.sig.returnType = (some .int) ∧ meth.locks = false) (ok_a0 : okr kM NM 12 a0 = true) (hf : F_X12_read_297b a0 l1 σ = some o) (hb0 : ∀ (v : Int32 × hSt), o = .inl v → ∀ (H : Heap) (locs : List Loc) (ls : Array Slot), Wd D ay kM NM ad (aN NM ad) s v.2 H locs → lv_has ls 2 [(0, .ref (ad a0)), (1, .int v.1)] → W p l e (rmK 7 146) s m args below meth c H locs 0 0 (MQ below (cI D ay kM NM ad r0 σ0) args s 0 0 (aN NM ad)) (F0 m 297 ls [])) (hr : ∀ x, o = .inr (x) → x = (r0, σ0)) (w : Wd D ay kM NM ad (aN NM ad) s σ H locs) (hl : lv_has ls 2 [(0, .ref (ad a0)), (1, .int l1)]) : W p l e (rmK 7 146) s m args below meth c H locs 0 0 (MQ below (cI D ay kM NM ad r0 σ0) args s 0 0 (aN NM ad)) (F0 m 297 ls []) := by
  have k_a0 := okr_in ok_a0
  unfold F_X12_read_297b at hf
  refine lv_iload_n G.hx G.hb (dcs_get dec_X12_read_4 5 rfl) rfl (lv_at hl 1 rfl) ?_
  refine lv_iconst (v := (3 : Int32)) G.hx G.hb (dcs_get dec_X12_read_4 6 rfl) (by decide) ?_
  refine lv_icmp_ge (tgt := 315) G.hx G.hb (dcs_get dec_X12_read_4 7 rfl) (by decide) (fun hc => ?_) (fun hc => ?_)
  · rw [if_pos hc] at hf
    refine lv_iconst (v := (0 : Int32)) G.hx G.hb (dcs_get dec_X12_read_4 15 rfl) (by decide) ?_
    have e9 := hr _ (Option.some.inj hf).symm
    exact r_iret G w hm (congrArg Prod.fst e9) (congrArg Prod.snd e9) (dcs_get dec_X12_read_4 16 rfl)
  · rw [if_neg hc] at hf
    refine lv_aload_n G.hx G.hb (dcs_get dec_X12_read_4 8 rfl) rfl (lv_at hl 0 rfl) ?_
    obtain ⟨z1, e_z1, ok_z1, hf⟩ := cR_some hf
    have k_z1 := okr_in ok_z1
    refine r_getr (k := 67) cls12 fi_12_67.1 fi_12_67.2 q_1075 G w k_a0.1 k_a0.2 e_z1 (dcs_get dec_X12_read_4 9 rfl) ?_
    refine lv_iload_n G.hx G.hb (dcs_get dec_X12_read_4 10 rfl) rfl (lv_at hl 1 rfl) ?_
    refine lv_iconst (v := (0 : Int32)) G.hx G.hb (dcs_get dec_X12_read_4 11 rfl) (by decide) ?_
    obtain ⟨h2, hf⟩ := cG_some hf
    obtain ⟨σ3, e_σ3, hf⟩ := cL_some hf
    refine r_zast G w k_z1.1 k_z1.2 h2 (dcs_get dec_X12_read_4 12 rfl) (fun H locs w => ?_)
    have w := Wd.nm e_σ3 w
    obtain ⟨v4, e_v4, hf⟩ := cL_some hf
    refine lv_iinc (v := v4) (lv' := [(1, .int v4), (0, .ref (ad a0))]) G.hx G.hb (dcs_get dec_X12_read_4 13 rfl) hl (k := 1) rfl (by rw [e_v4]; rfl) (by decide) rfl (fun ls hl => ?_)
    refine lv_goto (tgt := 297) G.hx G.hb (dcs_get dec_X12_read_4 14 rfl) (by decide) ?_
    exact hb0 _ (Option.some.inj hf).symm _ _ _ w (lv_sub hl [1, 0] rfl)
set_option maxRecDepth 100000 in
set_option maxHeartbeats 4000000 in
theorem H_X12_read_297 {r0 : Int32} {σ0 : hSt} (a0 : Nat) (G : Gx p m c cX12_read 2 s args RX12 D ay NM ad (aN NM ad)) (hm : meth.sig.returnType = (some .int) ∧ meth.locks = false) (ok_a0 : okr kM NM 12 a0 = true)  : ∀ (k : Nat) (v : Int32 × hSt), lp (S_X12_read_297 a0) k v = some (r0, σ0) → ∀ (H : Heap) (locs : List Loc) (ls : Array Slot), Wd D ay kM NM ad (aN NM ad) s v.2 H locs → lv_has ls 2 [(0, .ref (ad a0)), (1, .int v.1)] → W p l e (rmK 7 146) s m args below meth c H locs 0 0 (MQ below (cI D ay kM NM ad r0 σ0) args s 0 0 (aN NM ad)) (F0 m 297 ls []) := by
  intro k
  induction k with
  | zero => intro v hf; cases hf
  | succ k ih =>
    intro v hf H locs ls w hl
    obtain ⟨o1, h1, h2, h3⟩ := lp_some hf
    exact B_X12_read_297b a0 v.1 v.2 G hm ok_a0 h1  (fun v' e => ih v' (h2 v' e)) (fun x e => h3 x e) w hl
set_option maxRecDepth 100000 in
set_option maxHeartbeats 4000000 in
theorem B_X12_read_297 {H : Heap} {locs : List Loc} {ls : Array Slot} {r0 : Int32} {σ0 : hSt} (a0 : Nat) (l1 : Int32) (σ : hSt) (G : Gx p m c cX12_read 2 s args RX12 D ay NM ad (aN NM ad)) (hm : meth.sig.returnType = (some .int) ∧ meth.locks = false) (ok_a0 : okr kM NM 12 a0 = true) (hf : F_X12_read_297 a0 l1 σ = some (r0, σ0))  (w : Wd D ay kM NM ad (aN NM ad) s σ H locs) (hl : lv_has ls 2 [(0, .ref (ad a0)), (1, .int l1)]) : W p l e (rmK 7 146) s m args below meth c H locs 0 0 (MQ below (cI D ay kM NM ad r0 σ0) args s 0 0 (aN NM ad)) (F0 m 297 ls []) := by
  unfold F_X12_read_297 at hf
  exact H_X12_read_297 a0  G hm ok_a0  fuel (l1, σ) hf _ _ _ w hl
set_option maxRecDepth 100000 in
set_option maxHeartbeats 4000000 in
theorem B_X12_read_242 {H : Heap} {locs : List Loc} {ls : Array Slot} {r0 : Int32} {σ0 : hSt} (a0 : Nat) (s0 : Nat) (s1 : Int32) (σ : hSt) (G : Gx p m c cX12_read 2 s args RX12 D ay NM ad (aN NM ad)) (hm : meth.sig.returnType = (some .int) ∧ meth.locks = false) (ok_a0 : okr kM NM 12 a0 = true) (ok_s0 : okr kM NM 12 s0 = true) (hf : F_X12_read_242 a0 s0 s1 σ = some (r0, σ0))  (w : Wd D ay kM NM ad (aN NM ad) s σ H locs) (hl : lv_has ls 2 [(0, .ref (ad a0))]) : W p l e (rmK 7 146) s m args below meth c H locs 0 0 (MQ below (cI D ay kM NM ad r0 σ0) args s 0 0 (aN NM ad)) (F0 m 242 ls [.int s1, .ref (ad s0)]) := by
  have k_a0 := okr_in ok_a0
  have k_s0 := okr_in ok_s0
  unfold F_X12_read_242 at hf
  obtain ⟨σ5, e_σ5, hf⟩ := cL_some hf
  refine r_puti (k := 17) cls12 ct12 fi_12_17.1 fi_12_17.2 fp_12_17.1 fp_12_17.2 q_1025 rfl rfl G w k_s0.1 k_s0.2 (dcs_get dec_X12_read_3 16 rfl) (fun H locs w => ?_)
  have w := Wd.nm e_σ5 w
  refine lv_aload_n G.hx G.hb (dcs_get dec_X12_read_3 17 rfl) rfl (lv_at hl 0 rfl) ?_
  refine r_geti (k := 13) cls12 fi_12_13.1 fi_12_13.2 q_1021 G w k_a0.1 k_a0.2 (dcs_get dec_X12_read_3 18 rfl) ?_
  refine lv_if_le (tgt := 257) G.hx G.hb (dcs_get dec_X12_read_3 19 rfl) (by decide) (fun hc => ?_) (fun hc => ?_)
  · rw [if_pos hc] at hf
    refine lv_aload_n G.hx G.hb (dcs_get dec_X12_read_3 23 rfl) rfl (lv_at hl 0 rfl) ?_
    refine r_geti (k := 15) cls12 fi_12_15.1 fi_12_15.2 q_1023 G w k_a0.1 k_a0.2 (dcs_get dec_X12_read_3 24 rfl) ?_
    refine lv_if_le (tgt := 269) G.hx G.hb (dcs_get dec_X12_read_3 25 rfl) (by decide) (fun hc => ?_) (fun hc => ?_)
    · rw [if_pos hc] at hf
      refine lv_aload_n G.hx G.hb (dcs_get dec_X12_read_3 29 rfl) rfl (lv_at hl 0 rfl) ?_
      refine lv_aload_n G.hx G.hb (dcs_get dec_X12_read_3 30 rfl) rfl (lv_at hl 0 rfl) ?_
      refine r_geti (k := 19) cls12 fi_12_19.1 fi_12_19.2 q_1027 G w k_a0.1 k_a0.2 (dcs_get dec_X12_read_3 31 rfl) ?_
      obtain ⟨σ6, e_σ6, hf⟩ := cL_some hf
      refine r_puti (k := 18) cls12 ct12 fi_12_18.1 fi_12_18.2 fp_12_18.1 fp_12_18.2 q_1026 rfl rfl G w k_a0.1 k_a0.2 (dcs_get dec_X12_read_3 32 rfl) (fun H locs w => ?_)
      have w := Wd.nm e_σ6 w
      refine lv_aload_n G.hx G.hb (dcs_get dec_X12_read_3 33 rfl) rfl (lv_at hl 0 rfl) ?_
      obtain ⟨σ8, h7, hf⟩ := cB_some hf
      refine a_v (k_V (As := []) (rest := []) cls12 lb_X12_begins lv_X12_begins q_997 (C_X12_begins G.2.2.1 a0 σ6 h7 ok_a0) ⟨(Nat.le_of_ble_eq_true rfl), (Nat.le_of_ble_eq_true rfl)⟩ G w k_a0.1 k_a0.2 rfl rfl hl.1 (Nat.le_of_ble_eq_true rfl) (dcs_get dec_X12_read_3 34 rfl) ⟨Nat.le_refl _, Nat.le_refl _⟩) G w (fun H locs w => ?_)
      refine lv_aload_n G.hx G.hb (dcs_get dec_X12_read_3 35 rfl) rfl (lv_at hl 0 rfl) ?_
      obtain ⟨σ10, h9, hf⟩ := cB_some hf
      refine a_v (k_V (As := []) (rest := []) cls12 lb_X12_keepsRow lv_X12_keepsRow q_1005 (C_X12_keepsRow G.2.2.1 a0 σ8 h9 ok_a0) ⟨(Nat.le_of_ble_eq_true rfl), (Nat.le_of_ble_eq_true rfl)⟩ G w k_a0.1 k_a0.2 rfl rfl hl.1 (Nat.le_of_ble_eq_true rfl) (dcs_get dec_X12_read_3 36 rfl) ⟨Nat.le_refl _, Nat.le_refl _⟩) G w (fun H locs w => ?_)
      refine lv_aload_n G.hx G.hb (dcs_get dec_X12_read_3 37 rfl) rfl (lv_at hl 0 rfl) ?_
      refine lv_iconst (v := (0 : Int32)) G.hx G.hb (dcs_get dec_X12_read_3 38 rfl) (by decide) ?_
      obtain ⟨σ11, e_σ11, hf⟩ := cL_some hf
      refine r_puti (k := 57) cls12 ct12 fi_12_57.1 fi_12_57.2 fp_12_57.1 fp_12_57.2 q_1065 rfl rfl G w k_a0.1 k_a0.2 (dcs_get dec_X12_read_3 39 rfl) (fun H locs w => ?_)
      have w := Wd.nm e_σ11 w
      refine lv_aload_n G.hx G.hb (dcs_get dec_X12_read_4 0 rfl) rfl (lv_at hl 0 rfl) ?_
      refine lv_iconst (v := (0 : Int32)) G.hx G.hb (dcs_get dec_X12_read_4 1 rfl) (by decide) ?_
      obtain ⟨σ12, e_σ12, hf⟩ := cL_some hf
      refine r_puti (k := 63) cls12 ct12 fi_12_63.1 fi_12_63.2 fp_12_63.1 fp_12_63.2 q_1071 rfl rfl G w k_a0.1 k_a0.2 (dcs_get dec_X12_read_4 2 rfl) (fun H locs w => ?_)
      have w := Wd.nm e_σ12 w
      refine lv_iconst (v := (0 : Int32)) G.hx G.hb (dcs_get dec_X12_read_4 3 rfl) (by decide) ?_
      refine lv_istore_n (lv' := [(1, .int (0 : Int32)), (0, .ref (ad a0))]) G.hx G.hb (dcs_get dec_X12_read_4 4 rfl) rfl hl (by decide) rfl (fun ls hl => ?_)
      exact B_X12_read_297 a0 (0 : Int32) σ12 G hm ok_a0 hf  w (lv_sub hl [1, 0] rfl)
    · rw [if_neg hc] at hf
      refine lv_aload_n G.hx G.hb (dcs_get dec_X12_read_3 26 rfl) rfl (lv_at hl 0 rfl) ?_
      refine r_geti (k := 15) cls12 fi_12_15.1 fi_12_15.2 q_1023 G w k_a0.1 k_a0.2 (dcs_get dec_X12_read_3 27 rfl) ?_
      have e9 := Option.some.inj hf
      exact r_iret G w hm (congrArg Prod.fst e9) (congrArg Prod.snd e9) (dcs_get dec_X12_read_3 28 rfl)
  · rw [if_neg hc] at hf
    refine lv_aload_n G.hx G.hb (dcs_get dec_X12_read_3 20 rfl) rfl (lv_at hl 0 rfl) ?_
    refine r_geti (k := 13) cls12 fi_12_13.1 fi_12_13.2 q_1021 G w k_a0.1 k_a0.2 (dcs_get dec_X12_read_3 21 rfl) ?_
    have e9 := Option.some.inj hf
    exact r_iret G w hm (congrArg Prod.fst e9) (congrArg Prod.snd e9) (dcs_get dec_X12_read_3 22 rfl)
set_option maxRecDepth 100000 in
set_option maxHeartbeats 4000000 in
theorem B_X12_read_212 {H : Heap} {locs : List Loc} {ls : Array Slot} {r0 : Int32} {σ0 : hSt} (a0 : Nat) (σ : hSt) (G : Gx p m c cX12_read 2 s args RX12 D ay NM ad (aN NM ad)) (hm : meth.sig.returnType = (some .int) ∧ meth.locks = false) (ok_a0 : okr kM NM 12 a0 = true) (hf : F_X12_read_212 a0 σ = some (r0, σ0))  (w : Wd D ay kM NM ad (aN NM ad) s σ H locs) (hl : lv_has ls 2 [(0, .ref (ad a0))]) : W p l e (rmK 7 146) s m args below meth c H locs 0 0 (MQ below (cI D ay kM NM ad r0 σ0) args s 0 0 (aN NM ad)) (F0 m 212 ls []) := by
  have k_a0 := okr_in ok_a0
  unfold F_X12_read_212 at hf
  refine lv_aload_n G.hx G.hb (dcs_get dec_X12_read_3 2 rfl) rfl (lv_at hl 0 rfl) ?_
  refine lv_aload_n G.hx G.hb (dcs_get dec_X12_read_3 3 rfl) rfl (lv_at hl 0 rfl) ?_
  refine r_geti (k := 13) cls12 fi_12_13.1 fi_12_13.2 q_1021 G w k_a0.1 k_a0.2 (dcs_get dec_X12_read_3 4 rfl) ?_
  refine lv_if_le (tgt := 227) G.hx G.hb (dcs_get dec_X12_read_3 5 rfl) (by decide) (fun hc => ?_) (fun hc => ?_)
  · rw [if_pos hc] at hf
    refine lv_aload_n G.hx G.hb (dcs_get dec_X12_read_3 9 rfl) rfl (lv_at hl 0 rfl) ?_
    refine r_geti (k := 15) cls12 fi_12_15.1 fi_12_15.2 q_1023 G w k_a0.1 k_a0.2 (dcs_get dec_X12_read_3 10 rfl) ?_
    refine lv_if_le (tgt := 241) G.hx G.hb (dcs_get dec_X12_read_3 11 rfl) (by decide) (fun hc => ?_) (fun hc => ?_)
    · rw [if_pos hc] at hf
      refine lv_iconst (v := (-1 : Int32)) G.hx G.hb (dcs_get dec_X12_read_3 15 rfl) (by decide) ?_
      exact B_X12_read_242 a0 a0 (-1 : Int32) σ G hm ok_a0 ok_a0 hf  w (lv_sub hl [0] rfl)
    · rw [if_neg hc] at hf
      refine lv_aload_n G.hx G.hb (dcs_get dec_X12_read_3 12 rfl) rfl (lv_at hl 0 rfl) ?_
      refine r_geti (k := 16) cls12 fi_12_16.1 fi_12_16.2 q_1024 G w k_a0.1 k_a0.2 (dcs_get dec_X12_read_3 13 rfl) ?_
      refine lv_goto (tgt := 242) G.hx G.hb (dcs_get dec_X12_read_3 14 rfl) (by decide) ?_
      exact B_X12_read_242 a0 a0 (σ.1 a0 16) σ G hm ok_a0 ok_a0 hf  w (lv_sub hl [0] rfl)
  · rw [if_neg hc] at hf
    refine lv_aload_n G.hx G.hb (dcs_get dec_X12_read_3 6 rfl) rfl (lv_at hl 0 rfl) ?_
    refine r_geti (k := 14) cls12 fi_12_14.1 fi_12_14.2 q_1022 G w k_a0.1 k_a0.2 (dcs_get dec_X12_read_3 7 rfl) ?_
    refine lv_goto (tgt := 242) G.hx G.hb (dcs_get dec_X12_read_3 8 rfl) (by decide) ?_
    exact B_X12_read_242 a0 a0 (σ.1 a0 14) σ G hm ok_a0 ok_a0 hf  w (lv_sub hl [0] rfl)
set_option maxRecDepth 100000 in
set_option maxHeartbeats 4000000 in
theorem B_X12_read_190b {H : Heap} {locs : List Loc} {ls : Array Slot} {r0 : Int32} {σ0 : hSt} {o : (hSt) ⊕ (Int32 × hSt)} (a0 : Nat) (σ : hSt) (G : Gx p m c cX12_read 2 s args RX12 D ay NM ad (aN NM ad)) (hm : meth.sig.returnType = (some .int) ∧ meth.locks = false) (ok_a0 : okr kM NM 12 a0 = true) (hf : F_X12_read_190b a0 σ = some o) (hb0 : ∀ (v : hSt), o = .inl v → ∀ (H : Heap) (locs : List Loc) (ls : Array Slot), Wd D ay kM NM ad (aN NM ad) s v H locs → lv_has ls 2 [(0, .ref (ad a0))] → W p l e (rmK 7 146) s m args below meth c H locs 0 0 (MQ below (cI D ay kM NM ad r0 σ0) args s 0 0 (aN NM ad)) (F0 m 190 ls [])) (hr : ∀ x, o = .inr (x) → x = (r0, σ0)) (w : Wd D ay kM NM ad (aN NM ad) s σ H locs) (hl : lv_has ls 2 [(0, .ref (ad a0))]) : W p l e (rmK 7 146) s m args below meth c H locs 0 0 (MQ below (cI D ay kM NM ad r0 σ0) args s 0 0 (aN NM ad)) (F0 m 190 ls []) := by
  have k_a0 := okr_in ok_a0
  unfold F_X12_read_190b at hf
  refine lv_aload_n G.hx G.hb (dcs_get dec_X12_read_2 32 rfl) rfl (lv_at hl 0 rfl) ?_
  refine r_geti (k := 13) cls12 fi_12_13.1 fi_12_13.2 q_1021 G w k_a0.1 k_a0.2 (dcs_get dec_X12_read_2 33 rfl) ?_
  refine lv_if_ne (tgt := 212) G.hx G.hb (dcs_get dec_X12_read_2 34 rfl) (by decide) (fun hc => ?_) (fun hc => ?_)
  · rw [if_neg hc] at hf
    obtain ⟨x9, h9, e9⟩ := map_some_inv hf
    subst e9
    have e8 := hr _ rfl
    rw [e8] at h9
    exact B_X12_read_212 a0 σ G hm ok_a0 h9 w (lv_sub hl [0] rfl)
  · rw [if_pos hc] at hf
    refine lv_aload_n G.hx G.hb (dcs_get dec_X12_read_2 35 rfl) rfl (lv_at hl 0 rfl) ?_
    refine lv_iconst (v := (0 : Int32)) G.hx G.hb (dcs_get dec_X12_read_2 36 rfl) (by decide) ?_
    obtain ⟨v14, h13, hf⟩ := cB_some hf
    refine a_i (k_V (As := [.int (0 : Int32)]) (rest := []) cls12 lb_X12_is lv_X12_is q_1254 (C_X12_is G.2.2.1 a0 (0 : Int32) σ h13 ok_a0) ⟨(Nat.le_of_ble_eq_true rfl), (Nat.le_of_ble_eq_true rfl)⟩ G w k_a0.1 k_a0.2 rfl rfl hl.1 (Nat.le_of_ble_eq_true rfl) (dcs_get dec_X12_read_2 37 rfl) ⟨Nat.le_refl _, Nat.le_refl _⟩) G w (fun H locs w => ?_)
    refine lv_if_ne (tgt := 212) G.hx G.hb (dcs_get dec_X12_read_2 38 rfl) (by decide) (fun hc => ?_) (fun hc => ?_)
    · rw [if_neg hc] at hf
      obtain ⟨x9, h9, e9⟩ := map_some_inv hf
      subst e9
      have e8 := hr _ rfl
      rw [e8] at h9
      exact B_X12_read_212 a0 σ G hm ok_a0 h9 w (lv_sub hl [0] rfl)
    · rw [if_pos hc] at hf
      refine lv_aload_n G.hx G.hb (dcs_get dec_X12_read_2 39 rfl) rfl (lv_at hl 0 rfl) ?_
      obtain ⟨σ16, h15, hf⟩ := cB_some hf
      refine a_v (k_V (As := []) (rest := []) cls12 lb_X12_tell lv_X12_tell q_1258 (C_X12_tell G.2.2.1 a0 σ h15 ok_a0) ⟨(Nat.le_of_ble_eq_true rfl), (Nat.le_of_ble_eq_true rfl)⟩ G w k_a0.1 k_a0.2 rfl rfl hl.1 (Nat.le_of_ble_eq_true rfl) (dcs_get dec_X12_read_3 0 rfl) ⟨Nat.le_refl _, Nat.le_refl _⟩) G w (fun H locs w => ?_)
      refine lv_goto (tgt := 190) G.hx G.hb (dcs_get dec_X12_read_3 1 rfl) (by decide) ?_
      exact hb0 _ (Option.some.inj hf).symm _ _ _ w (lv_sub hl [0] rfl)
set_option maxRecDepth 100000 in
set_option maxHeartbeats 4000000 in
theorem H_X12_read_190 {r0 : Int32} {σ0 : hSt} (a0 : Nat) (G : Gx p m c cX12_read 2 s args RX12 D ay NM ad (aN NM ad)) (hm : meth.sig.returnType = (some .int) ∧ meth.locks = false) (ok_a0 : okr kM NM 12 a0 = true)  : ∀ (k : Nat) (v : hSt), lp (S_X12_read_190 a0) k v = some (r0, σ0) → ∀ (H : Heap) (locs : List Loc) (ls : Array Slot), Wd D ay kM NM ad (aN NM ad) s v H locs → lv_has ls 2 [(0, .ref (ad a0))] → W p l e (rmK 7 146) s m args below meth c H locs 0 0 (MQ below (cI D ay kM NM ad r0 σ0) args s 0 0 (aN NM ad)) (F0 m 190 ls []) := by
  intro k
  induction k with
  | zero => intro v hf; cases hf
  | succ k ih =>
    intro v hf H locs ls w hl
    obtain ⟨o1, h1, h2, h3⟩ := lp_some hf
    exact B_X12_read_190b a0 v G hm ok_a0 h1  (fun v' e => ih v' (h2 v' e)) (fun x e => h3 x e) w hl
set_option maxRecDepth 100000 in
set_option maxHeartbeats 4000000 in
theorem B_X12_read_190 {H : Heap} {locs : List Loc} {ls : Array Slot} {r0 : Int32} {σ0 : hSt} (a0 : Nat) (σ : hSt) (G : Gx p m c cX12_read 2 s args RX12 D ay NM ad (aN NM ad)) (hm : meth.sig.returnType = (some .int) ∧ meth.locks = false) (ok_a0 : okr kM NM 12 a0 = true) (hf : F_X12_read_190 a0 σ = some (r0, σ0))  (w : Wd D ay kM NM ad (aN NM ad) s σ H locs) (hl : lv_has ls 2 [(0, .ref (ad a0))]) : W p l e (rmK 7 146) s m args below meth c H locs 0 0 (MQ below (cI D ay kM NM ad r0 σ0) args s 0 0 (aN NM ad)) (F0 m 190 ls []) := by
  unfold F_X12_read_190 at hf
  exact H_X12_read_190 a0  G hm ok_a0  fuel (σ) hf _ _ _ w hl
set_option maxRecDepth 100000 in
set_option maxHeartbeats 4000000 in
theorem B_X12_read_10b {H : Heap} {locs : List Loc} {ls : Array Slot} {r0 : Int32} {σ0 : hSt} {o : (Int32 × hSt) ⊕ (Int32 × hSt)} (a0 : Nat) (l1 : Int32) (σ : hSt) (G : Gx p m c cX12_read 2 s args RX12 D ay NM ad (aN NM ad)) (hm : meth.sig.returnType = (some .int) ∧ meth.locks = false) (ok_a0 : okr kM NM 12 a0 = true) (hf : F_X12_read_10b a0 l1 σ = some o) (hb0 : ∀ (v : Int32 × hSt), o = .inl v → ∀ (H : Heap) (locs : List Loc) (ls : Array Slot), Wd D ay kM NM ad (aN NM ad) s v.2 H locs → lv_has ls 2 [(0, .ref (ad a0)), (1, .int v.1)] → W p l e (rmK 7 146) s m args below meth c H locs 0 0 (MQ below (cI D ay kM NM ad r0 σ0) args s 0 0 (aN NM ad)) (F0 m 10 ls [])) (hr : ∀ x, o = .inr (x) → x = (r0, σ0)) (w : Wd D ay kM NM ad (aN NM ad) s σ H locs) (hl : lv_has ls 2 [(0, .ref (ad a0)), (1, .int l1)]) : W p l e (rmK 7 146) s m args below meth c H locs 0 0 (MQ below (cI D ay kM NM ad r0 σ0) args s 0 0 (aN NM ad)) (F0 m 10 ls []) := by
  have k_a0 := okr_in ok_a0
  unfold F_X12_read_10b at hf
  refine lv_iload_n G.hx G.hb (dcs_get dec_X12_read_0 6 rfl) rfl (lv_at hl 1 rfl) ?_
  refine lv_aload_n G.hx G.hb (dcs_get dec_X12_read_0 7 rfl) rfl (lv_at hl 0 rfl) ?_
  refine r_geti (k := 4) cls12 fi_12_4.1 fi_12_4.2 q_1012 G w k_a0.1 k_a0.2 (dcs_get dec_X12_read_0 8 rfl) ?_
  refine lv_icmp_ge (tgt := 36) G.hx G.hb (dcs_get dec_X12_read_0 9 rfl) (by decide) (fun hc => ?_) (fun hc => ?_)
  · rw [if_pos hc] at hf
    refine lv_aload_n G.hx G.hb (dcs_get dec_X12_read_0 20 rfl) rfl (lv_at hl 0 rfl) ?_
    refine lv_iconst (v := (0 : Int32)) G.hx G.hb (dcs_get dec_X12_read_0 21 rfl) (by decide) ?_
    obtain ⟨σ17, e_σ17, hf⟩ := cL_some hf
    refine r_puti (k := 2) cls12 ct12 fi_12_2.1 fi_12_2.2 fp_12_2.1 fp_12_2.2 q_1010 rfl rfl G w k_a0.1 k_a0.2 (dcs_get dec_X12_read_0 22 rfl) (fun H locs w => ?_)
    have w := Wd.nm e_σ17 w
    refine lv_aload_n G.hx G.hb (dcs_get dec_X12_read_0 23 rfl) rfl (lv_at hl 0 rfl) ?_
    obtain ⟨σ19, h18, hf⟩ := cB_some hf
    refine a_v (k_V (As := []) (rest := []) cls12 lb_X12_cut lv_X12_cut q_1232 (C_X12_cut G.2.2.1 a0 σ17 h18 ok_a0) ⟨(Nat.le_of_ble_eq_true rfl), (Nat.le_of_ble_eq_true rfl)⟩ G w k_a0.1 k_a0.2 rfl rfl hl.1 (Nat.le_of_ble_eq_true rfl) (dcs_get dec_X12_read_0 24 rfl) ⟨Nat.le_refl _, Nat.le_refl _⟩) G w (fun H locs w => ?_)
    refine lv_aload_n G.hx G.hb (dcs_get dec_X12_read_0 25 rfl) rfl (lv_at hl 0 rfl) ?_
    refine lv_iconst (v := (0 : Int32)) G.hx G.hb (dcs_get dec_X12_read_0 26 rfl) (by decide) ?_
    obtain ⟨σ20, e_σ20, hf⟩ := cL_some hf
    refine r_puti (k := 11) cls12 ct12 fi_12_11.1 fi_12_11.2 fp_12_11.1 fp_12_11.2 q_1019 rfl rfl G w k_a0.1 k_a0.2 (dcs_get dec_X12_read_0 27 rfl) (fun H locs w => ?_)
    have w := Wd.nm e_σ20 w
    refine lv_aload_n G.hx G.hb (dcs_get dec_X12_read_0 28 rfl) rfl (lv_at hl 0 rfl) ?_
    refine lv_iconst (v := (0 : Int32)) G.hx G.hb (dcs_get dec_X12_read_0 29 rfl) (by decide) ?_
    obtain ⟨σ21, e_σ21, hf⟩ := cL_some hf
    refine r_puti (k := 12) cls12 ct12 fi_12_12.1 fi_12_12.2 fp_12_12.1 fp_12_12.2 q_1020 rfl rfl G w k_a0.1 k_a0.2 (dcs_get dec_X12_read_0 30 rfl) (fun H locs w => ?_)
    have w := Wd.nm e_σ21 w
    refine lv_aload_n G.hx G.hb (dcs_get dec_X12_read_0 31 rfl) rfl (lv_at hl 0 rfl) ?_
    refine lv_iconst (v := (0 : Int32)) G.hx G.hb (dcs_get dec_X12_read_0 32 rfl) (by decide) ?_
    obtain ⟨σ22, e_σ22, hf⟩ := cL_some hf
    refine r_puti (k := 13) cls12 ct12 fi_12_13.1 fi_12_13.2 fp_12_13.1 fp_12_13.2 q_1021 rfl rfl G w k_a0.1 k_a0.2 (dcs_get dec_X12_read_0 33 rfl) (fun H locs w => ?_)
    have w := Wd.nm e_σ22 w
    refine lv_aload_n G.hx G.hb (dcs_get dec_X12_read_0 34 rfl) rfl (lv_at hl 0 rfl) ?_
    refine lv_iconst (v := (0 : Int32)) G.hx G.hb (dcs_get dec_X12_read_0 35 rfl) (by decide) ?_
    obtain ⟨σ23, e_σ23, hf⟩ := cL_some hf
    refine r_puti (k := 15) cls12 ct12 fi_12_15.1 fi_12_15.2 fp_12_15.1 fp_12_15.2 q_1023 rfl rfl G w k_a0.1 k_a0.2 (dcs_get dec_X12_read_0 36 rfl) (fun H locs w => ?_)
    have w := Wd.nm e_σ23 w
    refine lv_aload_n G.hx G.hb (dcs_get dec_X12_read_0 37 rfl) rfl (lv_at hl 0 rfl) ?_
    refine lv_iconst (v := (1 : Int32)) G.hx G.hb (dcs_get dec_X12_read_0 38 rfl) (by decide) ?_
    refine lv_aload_n G.hx G.hb (dcs_get dec_X12_read_0 39 rfl) rfl (lv_at hl 0 rfl) ?_
    refine r_geti (k := 18) cls12 fi_12_18.1 fi_12_18.2 q_1026 G w k_a0.1 k_a0.2 (dcs_get dec_X12_read_1 0 rfl) ?_
    refine lv_isub G.hx G.hb (dcs_get dec_X12_read_1 1 rfl) ?_
    obtain ⟨σ24, e_σ24, hf⟩ := cL_some hf
    refine r_puti (k := 19) cls12 ct12 fi_12_19.1 fi_12_19.2 fp_12_19.1 fp_12_19.2 q_1027 rfl rfl G w k_a0.1 k_a0.2 (dcs_get dec_X12_read_1 2 rfl) (fun H locs w => ?_)
    have w := Wd.nm e_σ24 w
    refine lv_aload_n G.hx G.hb (dcs_get dec_X12_read_1 3 rfl) rfl (lv_at hl 0 rfl) ?_
    refine lv_iconst (v := (0 : Int32)) G.hx G.hb (dcs_get dec_X12_read_1 4 rfl) (by decide) ?_
    obtain ⟨σ25, e_σ25, hf⟩ := cL_some hf
    refine r_puti (k := 20) cls12 ct12 fi_12_20.1 fi_12_20.2 fp_12_20.1 fp_12_20.2 q_1028 rfl rfl G w k_a0.1 k_a0.2 (dcs_get dec_X12_read_1 5 rfl) (fun H locs w => ?_)
    have w := Wd.nm e_σ25 w
    refine lv_aload_n G.hx G.hb (dcs_get dec_X12_read_1 6 rfl) rfl (lv_at hl 0 rfl) ?_
    obtain ⟨z26, e_z26, ok_z26, hf⟩ := cR_some hf
    have k_z26 := okr_in ok_z26
    refine r_getr (k := 24) cls12 fi_12_24.1 fi_12_24.2 q_1032 G w k_a0.1 k_a0.2 e_z26 (dcs_get dec_X12_read_1 7 rfl) ?_
    refine lv_aload_n G.hx G.hb (dcs_get dec_X12_read_1 8 rfl) rfl (lv_at hl 0 rfl) ?_
    refine r_geti (k := 19) cls12 fi_12_19.1 fi_12_19.2 q_1027 G w k_a0.1 k_a0.2 (dcs_get dec_X12_read_1 9 rfl) ?_
    refine lv_iconst (v := (0 : Int32)) G.hx G.hb (dcs_get dec_X12_read_1 10 rfl) (by decide) ?_
    obtain ⟨h27, hf⟩ := cG_some hf
    obtain ⟨σ28, e_σ28, hf⟩ := cL_some hf
    refine r_iast G w k_z26.1 k_z26.2 h27 (dcs_get dec_X12_read_1 11 rfl) (fun H locs w => ?_)
    have w := Wd.nm e_σ28 w
    refine lv_aload_n G.hx G.hb (dcs_get dec_X12_read_1 12 rfl) rfl (lv_at hl 0 rfl) ?_
    obtain ⟨z29, e_z29, ok_z29, hf⟩ := cR_some hf
    have k_z29 := okr_in ok_z29
    refine r_getr (k := 27) cls12 fi_12_27.1 fi_12_27.2 q_1035 G w k_a0.1 k_a0.2 e_z29 (dcs_get dec_X12_read_1 13 rfl) ?_
    refine lv_aload_n G.hx G.hb (dcs_get dec_X12_read_1 14 rfl) rfl (lv_at hl 0 rfl) ?_
    refine r_geti (k := 19) cls12 fi_12_19.1 fi_12_19.2 q_1027 G w k_a0.1 k_a0.2 (dcs_get dec_X12_read_1 15 rfl) ?_
    refine lv_iconst (v := (0 : Int32)) G.hx G.hb (dcs_get dec_X12_read_1 16 rfl) (by decide) ?_
    obtain ⟨h30, hf⟩ := cG_some hf
    obtain ⟨σ31, e_σ31, hf⟩ := cL_some hf
    refine r_iast G w k_z29.1 k_z29.2 h30 (dcs_get dec_X12_read_1 17 rfl) (fun H locs w => ?_)
    have w := Wd.nm e_σ31 w
    refine lv_aload_n G.hx G.hb (dcs_get dec_X12_read_1 18 rfl) rfl (lv_at hl 0 rfl) ?_
    obtain ⟨z32, e_z32, ok_z32, hf⟩ := cR_some hf
    have k_z32 := okr_in ok_z32
    refine r_getr (k := 29) cls12 fi_12_29.1 fi_12_29.2 q_1037 G w k_a0.1 k_a0.2 e_z32 (dcs_get dec_X12_read_1 19 rfl) ?_
    refine lv_iconst (v := (2 : Int32)) G.hx G.hb (dcs_get dec_X12_read_1 20 rfl) (by decide) ?_
    refine lv_aload_n G.hx G.hb (dcs_get dec_X12_read_1 21 rfl) rfl (lv_at hl 0 rfl) ?_
    refine r_geti (k := 19) cls12 fi_12_19.1 fi_12_19.2 q_1027 G w k_a0.1 k_a0.2 (dcs_get dec_X12_read_1 22 rfl) ?_
    refine lv_imul G.hx G.hb (dcs_get dec_X12_read_1 23 rfl) ?_
    refine lv_iconst (v := (0 : Int32)) G.hx G.hb (dcs_get dec_X12_read_1 24 rfl) (by decide) ?_
    obtain ⟨h33, hf⟩ := cG_some hf
    obtain ⟨σ34, e_σ34, hf⟩ := cL_some hf
    refine r_iast G w k_z32.1 k_z32.2 h33 (dcs_get dec_X12_read_1 25 rfl) (fun H locs w => ?_)
    have w := Wd.nm e_σ34 w
    refine lv_aload_n G.hx G.hb (dcs_get dec_X12_read_1 26 rfl) rfl (lv_at hl 0 rfl) ?_
    obtain ⟨z35, e_z35, ok_z35, hf⟩ := cR_some hf
    have k_z35 := okr_in ok_z35
    refine r_getr (k := 29) cls12 fi_12_29.1 fi_12_29.2 q_1037 G w k_a0.1 k_a0.2 e_z35 (dcs_get dec_X12_read_1 27 rfl) ?_
    refine lv_iconst (v := (2 : Int32)) G.hx G.hb (dcs_get dec_X12_read_1 28 rfl) (by decide) ?_
    refine lv_aload_n G.hx G.hb (dcs_get dec_X12_read_1 29 rfl) rfl (lv_at hl 0 rfl) ?_
    refine r_geti (k := 19) cls12 fi_12_19.1 fi_12_19.2 q_1027 G w k_a0.1 k_a0.2 (dcs_get dec_X12_read_1 30 rfl) ?_
    refine lv_imul G.hx G.hb (dcs_get dec_X12_read_1 31 rfl) ?_
    refine lv_iconst (v := (1 : Int32)) G.hx G.hb (dcs_get dec_X12_read_1 32 rfl) (by decide) ?_
    refine lv_iadd G.hx G.hb (dcs_get dec_X12_read_1 33 rfl) ?_
    refine lv_iconst (v := (0 : Int32)) G.hx G.hb (dcs_get dec_X12_read_1 34 rfl) (by decide) ?_
    obtain ⟨h36, hf⟩ := cG_some hf
    obtain ⟨σ37, e_σ37, hf⟩ := cL_some hf
    refine r_iast G w k_z35.1 k_z35.2 h36 (dcs_get dec_X12_read_1 35 rfl) (fun H locs w => ?_)
    have w := Wd.nm e_σ37 w
    refine lv_aload_n G.hx G.hb (dcs_get dec_X12_read_1 36 rfl) rfl (lv_at hl 0 rfl) ?_
    obtain ⟨z38, e_z38, ok_z38, hf⟩ := cR_some hf
    have k_z38 := okr_in ok_z38
    refine r_getr (k := 31) cls12 fi_12_31.1 fi_12_31.2 q_1039 G w k_a0.1 k_a0.2 e_z38 (dcs_get dec_X12_read_1 37 rfl) ?_
    refine lv_aload_n G.hx G.hb (dcs_get dec_X12_read_1 38 rfl) rfl (lv_at hl 0 rfl) ?_
    refine r_geti (k := 19) cls12 fi_12_19.1 fi_12_19.2 q_1027 G w k_a0.1 k_a0.2 (dcs_get dec_X12_read_1 39 rfl) ?_
    refine lv_iconst (v := (1 : Int32)) G.hx G.hb (dcs_get dec_X12_read_2 0 rfl) (by decide) ?_
    obtain ⟨h39, hf⟩ := cG_some hf
    obtain ⟨σ40, e_σ40, hf⟩ := cL_some hf
    refine r_iast G w k_z38.1 k_z38.2 h39 (dcs_get dec_X12_read_2 1 rfl) (fun H locs w => ?_)
    have w := Wd.nm e_σ40 w
    refine lv_aload_n G.hx G.hb (dcs_get dec_X12_read_2 2 rfl) rfl (lv_at hl 0 rfl) ?_
    obtain ⟨z41, e_z41, ok_z41, hf⟩ := cR_some hf
    have k_z41 := okr_in ok_z41
    refine r_getr (k := 32) cls12 fi_12_32.1 fi_12_32.2 q_1040 G w k_a0.1 k_a0.2 e_z41 (dcs_get dec_X12_read_2 3 rfl) ?_
    refine lv_aload_n G.hx G.hb (dcs_get dec_X12_read_2 4 rfl) rfl (lv_at hl 0 rfl) ?_
    refine r_geti (k := 19) cls12 fi_12_19.1 fi_12_19.2 q_1027 G w k_a0.1 k_a0.2 (dcs_get dec_X12_read_2 5 rfl) ?_
    refine lv_iconst (v := (0 : Int32)) G.hx G.hb (dcs_get dec_X12_read_2 6 rfl) (by decide) ?_
    obtain ⟨h42, hf⟩ := cG_some hf
    obtain ⟨σ43, e_σ43, hf⟩ := cL_some hf
    refine r_iast G w k_z41.1 k_z41.2 h42 (dcs_get dec_X12_read_2 7 rfl) (fun H locs w => ?_)
    have w := Wd.nm e_σ43 w
    refine lv_aload_n G.hx G.hb (dcs_get dec_X12_read_2 8 rfl) rfl (lv_at hl 0 rfl) ?_
    refine lv_sipush (v := (130 : Int32)) G.hx G.hb (dcs_get dec_X12_read_2 9 rfl) (by decide) ?_
    refine lv_aload_n G.hx G.hb (dcs_get dec_X12_read_2 10 rfl) rfl (lv_at hl 0 rfl) ?_
    refine r_geti (k := 19) cls12 fi_12_19.1 fi_12_19.2 q_1027 G w k_a0.1 k_a0.2 (dcs_get dec_X12_read_2 11 rfl) ?_
    refine lv_imul G.hx G.hb (dcs_get dec_X12_read_2 12 rfl) ?_
    obtain ⟨σ44, e_σ44, hf⟩ := cL_some hf
    refine r_puti (k := 38) cls12 ct12 fi_12_38.1 fi_12_38.2 fp_12_38.1 fp_12_38.2 q_1046 rfl rfl G w k_a0.1 k_a0.2 (dcs_get dec_X12_read_2 13 rfl) (fun H locs w => ?_)
    have w := Wd.nm e_σ44 w
    refine lv_aload_n G.hx G.hb (dcs_get dec_X12_read_2 14 rfl) rfl (lv_at hl 0 rfl) ?_
    refine lv_sipush (v := (420 : Int32)) G.hx G.hb (dcs_get dec_X12_read_2 15 rfl) (by decide) ?_
    refine lv_aload_n G.hx G.hb (dcs_get dec_X12_read_2 16 rfl) rfl (lv_at hl 0 rfl) ?_
    refine r_geti (k := 19) cls12 fi_12_19.1 fi_12_19.2 q_1027 G w k_a0.1 k_a0.2 (dcs_get dec_X12_read_2 17 rfl) ?_
    refine lv_imul G.hx G.hb (dcs_get dec_X12_read_2 18 rfl) ?_
    obtain ⟨σ45, e_σ45, hf⟩ := cL_some hf
    refine r_puti (k := 44) cls12 ct12 fi_12_44.1 fi_12_44.2 fp_12_44.1 fp_12_44.2 q_1052 rfl rfl G w k_a0.1 k_a0.2 (dcs_get dec_X12_read_2 19 rfl) (fun H locs w => ?_)
    have w := Wd.nm e_σ45 w
    refine lv_aload_n G.hx G.hb (dcs_get dec_X12_read_2 20 rfl) rfl (lv_at hl 0 rfl) ?_
    obtain ⟨z46, e_z46, ok_z46, hf⟩ := cR_some hf
    have k_z46 := okr_in ok_z46
    refine r_getr (k := 36) cls12 fi_12_36.1 fi_12_36.2 q_1044 G w k_a0.1 k_a0.2 e_z46 (dcs_get dec_X12_read_2 21 rfl) ?_
    refine lv_aload_n G.hx G.hb (dcs_get dec_X12_read_2 22 rfl) rfl (lv_at hl 0 rfl) ?_
    refine r_geti (k := 19) cls12 fi_12_19.1 fi_12_19.2 q_1027 G w k_a0.1 k_a0.2 (dcs_get dec_X12_read_2 23 rfl) ?_
    refine lv_iconst (v := (0 : Int32)) G.hx G.hb (dcs_get dec_X12_read_2 24 rfl) (by decide) ?_
    obtain ⟨h47, hf⟩ := cG_some hf
    obtain ⟨σ48, e_σ48, hf⟩ := cL_some hf
    refine r_iast G w k_z46.1 k_z46.2 h47 (dcs_get dec_X12_read_2 25 rfl) (fun H locs w => ?_)
    have w := Wd.nm e_σ48 w
    refine lv_aload_n G.hx G.hb (dcs_get dec_X12_read_2 26 rfl) rfl (lv_at hl 0 rfl) ?_
    obtain ⟨z49, e_z49, ok_z49, hf⟩ := cR_some hf
    have k_z49 := okr_in ok_z49
    refine r_getr (k := 37) cls12 fi_12_37.1 fi_12_37.2 q_1045 G w k_a0.1 k_a0.2 e_z49 (dcs_get dec_X12_read_2 27 rfl) ?_
    refine lv_aload_n G.hx G.hb (dcs_get dec_X12_read_2 28 rfl) rfl (lv_at hl 0 rfl) ?_
    refine r_geti (k := 19) cls12 fi_12_19.1 fi_12_19.2 q_1027 G w k_a0.1 k_a0.2 (dcs_get dec_X12_read_2 29 rfl) ?_
    refine lv_iconst (v := (0 : Int32)) G.hx G.hb (dcs_get dec_X12_read_2 30 rfl) (by decide) ?_
    obtain ⟨h50, hf⟩ := cG_some hf
    obtain ⟨σ51, e_σ51, hf⟩ := cL_some hf
    refine r_iast G w k_z49.1 k_z49.2 h50 (dcs_get dec_X12_read_2 31 rfl) (fun H locs w => ?_)
    have w := Wd.nm e_σ51 w
    obtain ⟨x9, h9, e9⟩ := map_some_inv hf
    subst e9
    have e8 := hr _ rfl
    rw [e8] at h9
    exact B_X12_read_190 a0 σ51 G hm ok_a0 h9 w (lv_sub hl [0] rfl)
  · rw [if_neg hc] at hf
    refine lv_aload_n G.hx G.hb (dcs_get dec_X12_read_0 10 rfl) rfl (lv_at hl 0 rfl) ?_
    obtain ⟨z52, e_z52, ok_z52, hf⟩ := cR_some hf
    have k_z52 := okr_in ok_z52
    refine r_getr (k := 3) cls12 fi_12_3.1 fi_12_3.2 q_1011 G w k_a0.1 k_a0.2 e_z52 (dcs_get dec_X12_read_0 11 rfl) ?_
    refine lv_iload_n G.hx G.hb (dcs_get dec_X12_read_0 12 rfl) rfl (lv_at hl 1 rfl) ?_
    refine lv_aload_n G.hx G.hb (dcs_get dec_X12_read_0 13 rfl) rfl (lv_at hl 0 rfl) ?_
    obtain ⟨z53, e_z53, ok_z53, hf⟩ := cR_some hf
    have k_z53 := okr_in ok_z53
    refine r_getr (k := 1) cls12 fi_12_1.1 fi_12_1.2 q_1009 G w k_a0.1 k_a0.2 e_z53 (dcs_get dec_X12_read_0 14 rfl) ?_
    refine lv_iload_n G.hx G.hb (dcs_get dec_X12_read_0 15 rfl) rfl (lv_at hl 1 rfl) ?_
    obtain ⟨h54, hf⟩ := cG_some hf
    refine r_bald G w k_z53.1 k_z53.2 h54 (dcs_get dec_X12_read_0 16 rfl) ?_
    obtain ⟨h55, hf⟩ := cG_some hf
    obtain ⟨σ56, e_σ56, hf⟩ := cL_some hf
    refine r_bast G w k_z52.1 k_z52.2 h55 (dcs_get dec_X12_read_0 17 rfl) (fun H locs w => ?_)
    have w := Wd.nm e_σ56 w
    obtain ⟨v57, e_v57, hf⟩ := cL_some hf
    refine lv_iinc (v := v57) (lv' := [(1, .int v57), (0, .ref (ad a0))]) G.hx G.hb (dcs_get dec_X12_read_0 18 rfl) hl (k := 1) rfl (by rw [e_v57]; rfl) (by decide) rfl (fun ls hl => ?_)
    refine lv_goto (tgt := 10) G.hx G.hb (dcs_get dec_X12_read_0 19 rfl) (by decide) ?_
    exact hb0 _ (Option.some.inj hf).symm _ _ _ w (lv_sub hl [1, 0] rfl)
set_option maxRecDepth 100000 in
set_option maxHeartbeats 4000000 in
theorem H_X12_read_10 {r0 : Int32} {σ0 : hSt} (a0 : Nat) (G : Gx p m c cX12_read 2 s args RX12 D ay NM ad (aN NM ad)) (hm : meth.sig.returnType = (some .int) ∧ meth.locks = false) (ok_a0 : okr kM NM 12 a0 = true)  : ∀ (k : Nat) (v : Int32 × hSt), lp (S_X12_read_10 a0) k v = some (r0, σ0) → ∀ (H : Heap) (locs : List Loc) (ls : Array Slot), Wd D ay kM NM ad (aN NM ad) s v.2 H locs → lv_has ls 2 [(0, .ref (ad a0)), (1, .int v.1)] → W p l e (rmK 7 146) s m args below meth c H locs 0 0 (MQ below (cI D ay kM NM ad r0 σ0) args s 0 0 (aN NM ad)) (F0 m 10 ls []) := by
  intro k
  induction k with
  | zero => intro v hf; cases hf
  | succ k ih =>
    intro v hf H locs ls w hl
    obtain ⟨o1, h1, h2, h3⟩ := lp_some hf
    exact B_X12_read_10b a0 v.1 v.2 G hm ok_a0 h1  (fun v' e => ih v' (h2 v' e)) (fun x e => h3 x e) w hl
set_option maxRecDepth 100000 in
set_option maxHeartbeats 4000000 in
theorem B_X12_read_10 {H : Heap} {locs : List Loc} {ls : Array Slot} {r0 : Int32} {σ0 : hSt} (a0 : Nat) (l1 : Int32) (σ : hSt) (G : Gx p m c cX12_read 2 s args RX12 D ay NM ad (aN NM ad)) (hm : meth.sig.returnType = (some .int) ∧ meth.locks = false) (ok_a0 : okr kM NM 12 a0 = true) (hf : F_X12_read_10 a0 l1 σ = some (r0, σ0))  (w : Wd D ay kM NM ad (aN NM ad) s σ H locs) (hl : lv_has ls 2 [(0, .ref (ad a0)), (1, .int l1)]) : W p l e (rmK 7 146) s m args below meth c H locs 0 0 (MQ below (cI D ay kM NM ad r0 σ0) args s 0 0 (aN NM ad)) (F0 m 10 ls []) := by
  unfold F_X12_read_10 at hf
  exact H_X12_read_10 a0  G hm ok_a0  fuel (l1, σ) hf _ _ _ w hl
set_option maxRecDepth 100000 in
set_option maxHeartbeats 4000000 in
theorem B_X12_read_0 {H : Heap} {locs : List Loc} {ls : Array Slot} {r0 : Int32} {σ0 : hSt} (a0 : Nat) (σ : hSt) (G : Gx p m c cX12_read 2 s args RX12 D ay NM ad (aN NM ad)) (hm : meth.sig.returnType = (some .int) ∧ meth.locks = false) (ok_a0 : okr kM NM 12 a0 = true) (hf : F_X12_read a0 σ = some (r0, σ0))  (w : Wd D ay kM NM ad (aN NM ad) s σ H locs) (hl : lv_has ls 2 [(0, .ref (ad a0))]) : W p l e (rmK 7 146) s m args below meth c H locs 0 0 (MQ below (cI D ay kM NM ad r0 σ0) args s 0 0 (aN NM ad)) (F0 m 0 ls []) := by
  have k_a0 := okr_in ok_a0
  unfold F_X12_read at hf
  refine lv_aload_n G.hx G.hb (dcs_get dec_X12_read_0 0 rfl) rfl (lv_at hl 0 rfl) ?_
  refine lv_aload_n G.hx G.hb (dcs_get dec_X12_read_0 1 rfl) rfl (lv_at hl 0 rfl) ?_
  refine r_geti (k := 2) cls12 fi_12_2.1 fi_12_2.2 q_1010 G w k_a0.1 k_a0.2 (dcs_get dec_X12_read_0 2 rfl) ?_
  obtain ⟨σ58, e_σ58, hf⟩ := cL_some hf
  refine r_puti (k := 4) cls12 ct12 fi_12_4.1 fi_12_4.2 fp_12_4.1 fp_12_4.2 q_1012 rfl rfl G w k_a0.1 k_a0.2 (dcs_get dec_X12_read_0 3 rfl) (fun H locs w => ?_)
  have w := Wd.nm e_σ58 w
  refine lv_iconst (v := (0 : Int32)) G.hx G.hb (dcs_get dec_X12_read_0 4 rfl) (by decide) ?_
  refine lv_istore_n (lv' := [(1, .int (0 : Int32)), (0, .ref (ad a0))]) G.hx G.hb (dcs_get dec_X12_read_0 5 rfl) rfl hl (by decide) rfl (fun ls hl => ?_)
  exact B_X12_read_10 a0 (0 : Int32) σ58 G hm ok_a0 hf  w (lv_sub hl [1, 0] rfl)
end
set_option maxRecDepth 100000 in
set_option maxHeartbeats 4000000 in
theorem C_X12_read {l : Launch} {D : va_G} {ay : Nat → ClassId} {ad : Nat → Nat} (hi : hInj NM ad) (a0 : Nat) (σ : hSt) {r0 : Int32} {σ0 : hSt} (hf : F_X12_read a0 σ = some (r0, σ0)) (ok_a0 : okr kM NM 12 a0 = true) : hM l D ay kM NM ad yX12_read cX12_read 2 ((some .int)) (rmK 7 146) [.ref (ad a0)] σ (cI D ay kM NM ad r0 σ0) := by
  refine hM_in (by decide) hi (Nat.le_of_ble_eq_true rfl) ?_
  intro p e s m below meth c G hm w ls hl
  exact B_X12_read_0 a0 σ G hm ok_a0 hf w (lv_sub hl [0] rfl)

/-! HillDrumsModel.place()I -/
def DL_X12_place_0 : List (Nat × Instr × Nat) := [(0, .aload_n 0, 1), (1, .getfield 37, 3), (4, .ireturn, 1)]
set_option maxRecDepth 100000 in
theorem dec_X12_place_0 : dcs cX12_place DL_X12_place_0 = true := by decide +kernel
theorem lb_X12_place : lkB yX12_place cX12_place 1 ((some .int)) 0 := ⟨q_1341, q_14, ⟨by decide, by decide⟩, by decide +kernel⟩
theorem lv_X12_place : lkV yX12_place := ⟨q_1339, q_1340⟩
def F_X12_place (a0 : Nat) (σ : hSt) : Option (Int32) :=
some (σ.1 a0 17)
section
variable {p : Program} {l : Launch} {e : Env} {s : State} {m : MethodId} {args : Array Value} {below : List Frame} {meth : Method} {c : Code} {D : va_G} {ay : Nat → ClassId} {ad : Nat → Nat}
set_option maxRecDepth 100000 in
set_option maxHeartbeats 4000000 in
theorem B_X12_place_0 {H : Heap} {locs : List Loc} {ls : Array Slot} {r0 : Int32} (a0 : Nat) (σ : hSt) (G : Gx p m c cX12_place 1 s args RX12 D ay NM ad (aN NM ad)) (hm : meth.sig.returnType = (some .int) ∧ meth.locks = false) (ok_a0 : okr kM NM 12 a0 = true) (hf : F_X12_place a0 σ = some r0)  (w : Wd D ay kM NM ad (aN NM ad) s σ H locs) (hl : lv_has ls 1 [(0, .ref (ad a0))]) : W p l e (rmK 0 0) s m args below meth c H locs 0 0 (MQ below (cI D ay kM NM ad r0 σ) args s 0 0 (aN NM ad)) (F0 m 0 ls []) := by
  have k_a0 := okr_in ok_a0
  unfold F_X12_place at hf
  refine lv_aload_n G.hx G.hb (dcs_get dec_X12_place_0 0 rfl) rfl (lv_at hl 0 rfl) ?_
  refine r_geti (k := 17) cls12 fi_12_17.1 fi_12_17.2 q_1025 G w k_a0.1 k_a0.2 (dcs_get dec_X12_place_0 1 rfl) ?_
  have e9 := Option.some.inj hf
  exact r_iret G w hm e9 rfl (dcs_get dec_X12_place_0 2 rfl)
end
set_option maxRecDepth 100000 in
set_option maxHeartbeats 4000000 in
theorem C_X12_place {l : Launch} {D : va_G} {ay : Nat → ClassId} {ad : Nat → Nat} (hi : hInj NM ad) (a0 : Nat) (σ : hSt) {r0 : Int32} (hf : F_X12_place a0 σ = some r0) (ok_a0 : okr kM NM 12 a0 = true) : hM l D ay kM NM ad yX12_place cX12_place 1 ((some .int)) (rmK 0 0) [.ref (ad a0)] σ (cI D ay kM NM ad r0 σ) := by
  refine hM_in (by decide) hi (Nat.le_of_ble_eq_true rfl) ?_
  intro p e s m below meth c G hm w ls hl
  exact B_X12_place_0 a0 σ G hm ok_a0 hf w (lv_sub hl [0] rfl)

/-! HillDrumsModel.termOf(II)I -/
def DL_X12_termOf_0 : List (Nat × Instr × Nat) := [(0, .iconst 0, 1), (1, .istore_n 3, 1), (2, .iload_n 1, 1), (3, .istore 4, 2), (5, .iload 4, 2), (7, .iload_n 2, 1), (8, .if_icmp .ge 157, 3), (11, .aload_n 0, 1), (12, .getfield 107, 3), (15, .iload 4, 2), (17, .iaload, 1), (18, .istore 5, 2), (20, .iload 5, 2), (22, .iconst 2, 1), (23, .if_icmp .ge 42, 3), (26, .aload_n 0, 1), (27, .getfield 119, 3), (30, .iload_n 3, 1), (31, .iload 5, 2), (33, .ifCond .ne 13, 3), (36, .aload_n 0, 1), (37, .getfield 110, 3), (40, .iload 4, 2), (42, .iaload, 1), (43, .goto 15, 3), (46, .aload_n 0, 1), (47, .getfield 116, 3), (50, .aload_n 0, 1), (51, .getfield 110, 3), (54, .iload 4, 2), (56, .iaload, 1), (57, .iaload, 1), (58, .iastore, 1), (59, .iinc 3 1, 3), (62, .goto 97, 3), (65, .iinc 3 (-1), 3), (68, .aload_n 0, 1), (69, .getfield 119, 3), (72, .iload_n 3, 1), (73, .iconst 1, 1)]
set_option maxRecDepth 100000 in
theorem dec_X12_termOf_0 : dcs cX12_termOf DL_X12_termOf_0 = true := by decide +kernel
def DL_X12_termOf_1 : List (Nat × Instr × Nat) := [(74, .isub, 1), (75, .iaload, 1), (76, .istore 6, 2), (78, .aload_n 0, 1), (79, .getfield 119, 3), (82, .iload_n 3, 1), (83, .iaload, 1), (84, .istore 7, 2), (86, .iload 5, 2), (88, .iconst 5, 1), (89, .if_icmp .ne 15, 3), (92, .iload 7, 2), (94, .ifCond .ne 10, 3), (97, .aload_n 0, 1), (98, .iconst 1, 1), (99, .putfield 319, 3), (102, .iconst 0, 1), (103, .ireturn, 1), (104, .aload_n 0, 1), (105, .getfield 119, 3), (108, .iload_n 3, 1), (109, .iconst 1, 1), (110, .isub, 1), (111, .iload 5, 2), (113, .iconst 2, 1), (114, .if_icmp .ne 11, 3), (117, .iload 6, 2), (119, .iload 7, 2), (121, .iadd, 1), (122, .goto 36, 3), (125, .iload 5, 2), (127, .iconst 3, 1), (128, .if_icmp .ne 11, 3), (131, .iload 6, 2), (133, .iload 7, 2), (135, .isub, 1), (136, .goto 22, 3), (139, .iload 5, 2), (141, .iconst 4, 1), (142, .if_icmp .ne 11, 3)]
set_option maxRecDepth 100000 in
theorem dec_X12_termOf_1 : dcs cX12_termOf DL_X12_termOf_1 = true := by decide +kernel
def DL_X12_termOf_2 : List (Nat × Instr × Nat) := [(145, .iload 6, 2), (147, .iload 7, 2), (149, .imul, 1), (150, .goto 8, 3), (153, .iload 6, 2), (155, .iload 7, 2), (157, .idiv, 1), (158, .iastore, 1), (159, .iinc 4 1, 3), (162, .goto (-157), 3), (165, .aload_n 0, 1), (166, .getfield 119, 3), (169, .iconst 0, 1), (170, .iaload, 1), (171, .ireturn, 1)]
set_option maxRecDepth 100000 in
theorem dec_X12_termOf_2 : dcs cX12_termOf DL_X12_termOf_2 = true := by decide +kernel
theorem lb_X12_termOf : lkB yX12_termOf cX12_termOf 8 ((some .int)) 2 := ⟨q_1371, q_14, ⟨by decide, by decide⟩, by decide +kernel⟩
theorem lv_X12_termOf : lkV yX12_termOf := ⟨q_1370, qs_97⟩
def F_X12_termOf_159 (a0 : Nat) (l2 : Int32) (l3 : Int32) (l4 : Int32) (σ : hSt) : Option ((Int32 × Int32 × hSt) ⊕ (Int32 × hSt)) :=
cL (l4 + (1 : Int32)) fun v1 =>
some (.inl (l3, v1, σ))
def F_X12_termOf_58 (a0 : Nat) (l2 : Int32) (l3 : Int32) (l4 : Int32) (s0 : Nat) (s1 : Int32) (s2 : Int32) (σ : hSt) : Option ((Int32 × Int32 × hSt) ⊕ (Int32 × hSt)) :=
cG (inb s1 (kM s0).2) <|
cL (uI σ s0 s1.toNatClampNeg s2) fun σ3 =>
cL (l3 + (1 : Int32)) fun v4 =>
F_X12_termOf_159 a0 l2 v4 l4 σ3
def F_X12_termOf_158 (a0 : Nat) (l2 : Int32) (l3 : Int32) (l4 : Int32) (s0 : Nat) (s1 : Int32) (s2 : Int32) (σ : hSt) : Option ((Int32 × Int32 × hSt) ⊕ (Int32 × hSt)) :=
cG (inb s1 (kM s0).2) <|
cL (uI σ s0 s1.toNatClampNeg s2) fun σ6 =>
F_X12_termOf_159 a0 l2 l3 l4 σ6
def F_X12_termOf_104 (a0 : Nat) (l2 : Int32) (l3 : Int32) (l4 : Int32) (l5 : Int32) (l6 : Int32) (l7 : Int32) (σ : hSt) : Option ((Int32 × Int32 × hSt) ⊕ (Int32 × hSt)) :=
cR (σ.2.2 a0 50) (okr kM NM 101) fun z7 =>
if l5 = (2 : Int32) then (
F_X12_termOf_158 a0 l2 l3 l4 z7 (l3 - (1 : Int32)) (l6 + l7) σ) else (
if l5 = (3 : Int32) then (
F_X12_termOf_158 a0 l2 l3 l4 z7 (l3 - (1 : Int32)) (l6 - l7) σ) else (
if l5 = (4 : Int32) then (
F_X12_termOf_158 a0 l2 l3 l4 z7 (l3 - (1 : Int32)) (l6 * l7) σ) else (
cG (!decide (l7 = 0)) <|
F_X12_termOf_158 a0 l2 l3 l4 z7 (l3 - (1 : Int32)) (l6 / l7) σ)))
def F_X12_termOf_5b (a0 : Nat) (l2 : Int32) (l3 : Int32) (l4 : Int32) (σ : hSt) : Option ((Int32 × Int32 × hSt) ⊕ (Int32 × hSt)) :=
if l2 ≤ l4 then (
cR (σ.2.2 a0 50) (okr kM NM 101) fun z9 =>
cG (inb (0 : Int32) (kM z9).2) <|
some (.inr ((σ.1 z9 (0 : Int32).toNatClampNeg, σ)))) else (
cR (σ.2.2 a0 45) (okr kM NM 101) fun z11 =>
cG (inb l4 (kM z11).2) <|
cL (σ.1 z11 l4.toNatClampNeg) fun v13 =>
if (2 : Int32) ≤ v13 then (
cL (l3 + (-1 : Int32)) fun v14 =>
cR (σ.2.2 a0 50) (okr kM NM 101) fun z15 =>
cG (inb (v14 - (1 : Int32)) (kM z15).2) <|
cL (σ.1 z15 (v14 - (1 : Int32)).toNatClampNeg) fun v17 =>
cR (σ.2.2 a0 50) (okr kM NM 101) fun z18 =>
cG (inb v14 (kM z18).2) <|
cL (σ.1 z18 v14.toNatClampNeg) fun v20 =>
if v13 = (5 : Int32) then (
if v20 = 0 then (
cL (uI σ a0 51 (1 : Int32)) fun σ21 =>
some (.inr (((0 : Int32), σ21)))) else (
F_X12_termOf_104 a0 l2 v14 l4 v13 v17 v20 σ)) else (
F_X12_termOf_104 a0 l2 v14 l4 v13 v17 v20 σ)) else (
cR (σ.2.2 a0 50) (okr kM NM 101) fun z22 =>
if v13 = 0 then (
cR (σ.2.2 a0 46) (okr kM NM 101) fun z27 =>
cG (inb l4 (kM z27).2) <|
F_X12_termOf_58 a0 l2 l3 l4 z22 l3 (σ.1 z27 l4.toNatClampNeg) σ) else (
cR (σ.2.2 a0 49) (okr kM NM 101) fun z23 =>
cR (σ.2.2 a0 46) (okr kM NM 101) fun z24 =>
cG (inb l4 (kM z24).2) <|
cG (inb (σ.1 z24 l4.toNatClampNeg) (kM z23).2) <|
F_X12_termOf_58 a0 l2 l3 l4 z22 l3 (σ.1 z23 (σ.1 z24 l4.toNatClampNeg).toNatClampNeg) σ)))
def S_X12_termOf_5 (a0 : Nat) (l2 : Int32) (v : Int32 × Int32 × hSt) : Option ((Int32 × Int32 × hSt) ⊕ (Int32 × hSt)) := F_X12_termOf_5b a0 l2 v.1 v.2.1 v.2.2
def F_X12_termOf_5 (a0 : Nat) (l2 : Int32) (l3 : Int32) (l4 : Int32) (σ : hSt) : Option (Int32 × hSt) := lp (S_X12_termOf_5 a0 l2) fuel (l3, l4, σ)
def F_X12_termOf (a0 : Nat) (l1 : Int32) (l2 : Int32) (σ : hSt) : Option (Int32 × hSt) :=
F_X12_termOf_5 a0 l2 (0 : Int32) l1 σ
section
variable {p : Program} {l : Launch} {e : Env} {s : State} {m : MethodId} {args : Array Value} {below : List Frame} {meth : Method} {c : Code} {D : va_G} {ay : Nat → ClassId} {ad : Nat → Nat}
set_option maxRecDepth 100000 in
set_option maxHeartbeats 4000000 in
theorem B_X12_termOf_159 {H : Heap} {locs : List Loc} {ls : Array Slot} {r0 : Int32} {σ0 : hSt} {o : (Int32 × Int32 × hSt) ⊕ (Int32 × hSt)} (a0 : Nat) (l2 : Int32) (l3 : Int32) (l4 : Int32) (σ : hSt) (G : Gx p m c cX12_termOf 8 s args RX12 D ay NM ad (aN NM ad)) (hm : meth.sig.returnType = (some .int) ∧ meth.locks = false) (ok_a0 : okr kM NM 12 a0 = true) (hf : F_X12_termOf_159 a0 l2 l3 l4 σ = some o) (hb0 : ∀ (v : Int32 × Int32 × hSt), o = .inl v → ∀ (H : Heap) (locs : List Loc) (ls : Array Slot), Wd D ay kM NM ad (aN NM ad) s v.2.2 H locs → lv_has ls 8 [(0, .ref (ad a0)), (2, .int l2), (3, .int v.1), (4, .int v.2.1)] → W p l e (rmK 0 0) s m args below meth c H locs 0 0 (MQ below (cI D ay kM NM ad r0 σ0) args s 0 0 (aN NM ad)) (F0 m 5 ls [])) (hr : ∀ x, o = .inr (x) → x = (r0, σ0)) (w : Wd D ay kM NM ad (aN NM ad) s σ H locs) (hl : lv_has ls 8 [(0, .ref (ad a0)), (2, .int l2), (3, .int l3), (4, .int l4)]) : W p l e (rmK 0 0) s m args below meth c H locs 0 0 (MQ below (cI D ay kM NM ad r0 σ0) args s 0 0 (aN NM ad)) (F0 m 159 ls []) := by
  have k_a0 := okr_in ok_a0
  unfold F_X12_termOf_159 at hf
  obtain ⟨v1, e_v1, hf⟩ := cL_some hf
  refine lv_iinc (v := v1) (lv' := [(4, .int v1), (0, .ref (ad a0)), (2, .int l2), (3, .int l3)]) G.hx G.hb (dcs_get dec_X12_termOf_2 8 rfl) hl (k := 3) rfl (by rw [e_v1]; rfl) (by decide) rfl (fun ls hl => ?_)
  refine lv_goto (tgt := 5) G.hx G.hb (dcs_get dec_X12_termOf_2 9 rfl) (by decide) ?_
  exact hb0 _ (Option.some.inj hf).symm _ _ _ w (lv_sub hl [1, 2, 3, 0] rfl)
set_option maxRecDepth 100000 in
set_option maxHeartbeats 4000000 in
theorem B_X12_termOf_58 {H : Heap} {locs : List Loc} {ls : Array Slot} {r0 : Int32} {σ0 : hSt} {o : (Int32 × Int32 × hSt) ⊕ (Int32 × hSt)} (a0 : Nat) (l2 : Int32) (l3 : Int32) (l4 : Int32) (s0 : Nat) (s1 : Int32) (s2 : Int32) (σ : hSt) (G : Gx p m c cX12_termOf 8 s args RX12 D ay NM ad (aN NM ad)) (hm : meth.sig.returnType = (some .int) ∧ meth.locks = false) (ok_a0 : okr kM NM 12 a0 = true) (ok_s0 : okr kM NM 101 s0 = true) (hf : F_X12_termOf_58 a0 l2 l3 l4 s0 s1 s2 σ = some o) (hb0 : ∀ (v : Int32 × Int32 × hSt), o = .inl v → ∀ (H : Heap) (locs : List Loc) (ls : Array Slot), Wd D ay kM NM ad (aN NM ad) s v.2.2 H locs → lv_has ls 8 [(0, .ref (ad a0)), (2, .int l2), (3, .int v.1), (4, .int v.2.1)] → W p l e (rmK 0 0) s m args below meth c H locs 0 0 (MQ below (cI D ay kM NM ad r0 σ0) args s 0 0 (aN NM ad)) (F0 m 5 ls [])) (hr : ∀ x, o = .inr (x) → x = (r0, σ0)) (w : Wd D ay kM NM ad (aN NM ad) s σ H locs) (hl : lv_has ls 8 [(0, .ref (ad a0)), (2, .int l2), (3, .int l3), (4, .int l4)]) : W p l e (rmK 0 0) s m args below meth c H locs 0 0 (MQ below (cI D ay kM NM ad r0 σ0) args s 0 0 (aN NM ad)) (F0 m 58 ls [.int s2, .int s1, .ref (ad s0)]) := by
  have k_a0 := okr_in ok_a0
  have k_s0 := okr_in ok_s0
  unfold F_X12_termOf_58 at hf
  obtain ⟨h2, hf⟩ := cG_some hf
  obtain ⟨σ3, e_σ3, hf⟩ := cL_some hf
  refine r_iast G w k_s0.1 k_s0.2 h2 (dcs_get dec_X12_termOf_0 32 rfl) (fun H locs w => ?_)
  have w := Wd.nm e_σ3 w
  obtain ⟨v4, e_v4, hf⟩ := cL_some hf
  refine lv_iinc (v := v4) (lv' := [(3, .int v4), (0, .ref (ad a0)), (2, .int l2), (4, .int l4)]) G.hx G.hb (dcs_get dec_X12_termOf_0 33 rfl) hl (k := 2) rfl (by rw [e_v4]; rfl) (by decide) rfl (fun ls hl => ?_)
  refine lv_goto (tgt := 159) G.hx G.hb (dcs_get dec_X12_termOf_0 34 rfl) (by decide) ?_
  exact B_X12_termOf_159 a0 l2 v4 l4 σ3 G hm ok_a0 hf hb0 hr w (lv_sub hl [1, 2, 0, 3] rfl)
set_option maxRecDepth 100000 in
set_option maxHeartbeats 4000000 in
theorem B_X12_termOf_158 {H : Heap} {locs : List Loc} {ls : Array Slot} {r0 : Int32} {σ0 : hSt} {o : (Int32 × Int32 × hSt) ⊕ (Int32 × hSt)} (a0 : Nat) (l2 : Int32) (l3 : Int32) (l4 : Int32) (s0 : Nat) (s1 : Int32) (s2 : Int32) (σ : hSt) (G : Gx p m c cX12_termOf 8 s args RX12 D ay NM ad (aN NM ad)) (hm : meth.sig.returnType = (some .int) ∧ meth.locks = false) (ok_a0 : okr kM NM 12 a0 = true) (ok_s0 : okr kM NM 101 s0 = true) (hf : F_X12_termOf_158 a0 l2 l3 l4 s0 s1 s2 σ = some o) (hb0 : ∀ (v : Int32 × Int32 × hSt), o = .inl v → ∀ (H : Heap) (locs : List Loc) (ls : Array Slot), Wd D ay kM NM ad (aN NM ad) s v.2.2 H locs → lv_has ls 8 [(0, .ref (ad a0)), (2, .int l2), (3, .int v.1), (4, .int v.2.1)] → W p l e (rmK 0 0) s m args below meth c H locs 0 0 (MQ below (cI D ay kM NM ad r0 σ0) args s 0 0 (aN NM ad)) (F0 m 5 ls [])) (hr : ∀ x, o = .inr (x) → x = (r0, σ0)) (w : Wd D ay kM NM ad (aN NM ad) s σ H locs) (hl : lv_has ls 8 [(0, .ref (ad a0)), (2, .int l2), (3, .int l3), (4, .int l4)]) : W p l e (rmK 0 0) s m args below meth c H locs 0 0 (MQ below (cI D ay kM NM ad r0 σ0) args s 0 0 (aN NM ad)) (F0 m 158 ls [.int s2, .int s1, .ref (ad s0)]) := by
  have k_a0 := okr_in ok_a0
  have k_s0 := okr_in ok_s0
  unfold F_X12_termOf_158 at hf
  obtain ⟨h5, hf⟩ := cG_some hf
  obtain ⟨σ6, e_σ6, hf⟩ := cL_some hf
  refine r_iast G w k_s0.1 k_s0.2 h5 (dcs_get dec_X12_termOf_2 7 rfl) (fun H locs w => ?_)
  have w := Wd.nm e_σ6 w
  exact B_X12_termOf_159 a0 l2 l3 l4 σ6 G hm ok_a0 hf hb0 hr w (lv_sub hl [0, 1, 2, 3] rfl)
set_option maxRecDepth 100000 in
set_option maxHeartbeats 4000000 in
theorem B_X12_termOf_104 {H : Heap} {locs : List Loc} {ls : Array Slot} {r0 : Int32} {σ0 : hSt} {o : (Int32 × Int32 × hSt) ⊕ (Int32 × hSt)} (a0 : Nat) (l2 : Int32) (l3 : Int32) (l4 : Int32) (l5 : Int32) (l6 : Int32) (l7 : Int32) (σ : hSt) (G : Gx p m c cX12_termOf 8 s args RX12 D ay NM ad (aN NM ad)) (hm : meth.sig.returnType = (some .int) ∧ meth.locks = false) (ok_a0 : okr kM NM 12 a0 = true) (hf : F_X12_termOf_104 a0 l2 l3 l4 l5 l6 l7 σ = some o) (hb0 : ∀ (v : Int32 × Int32 × hSt), o = .inl v → ∀ (H : Heap) (locs : List Loc) (ls : Array Slot), Wd D ay kM NM ad (aN NM ad) s v.2.2 H locs → lv_has ls 8 [(0, .ref (ad a0)), (2, .int l2), (3, .int v.1), (4, .int v.2.1)] → W p l e (rmK 0 0) s m args below meth c H locs 0 0 (MQ below (cI D ay kM NM ad r0 σ0) args s 0 0 (aN NM ad)) (F0 m 5 ls [])) (hr : ∀ x, o = .inr (x) → x = (r0, σ0)) (w : Wd D ay kM NM ad (aN NM ad) s σ H locs) (hl : lv_has ls 8 [(0, .ref (ad a0)), (2, .int l2), (3, .int l3), (4, .int l4), (5, .int l5), (6, .int l6), (7, .int l7)]) : W p l e (rmK 0 0) s m args below meth c H locs 0 0 (MQ below (cI D ay kM NM ad r0 σ0) args s 0 0 (aN NM ad)) (F0 m 104 ls []) := by
  have k_a0 := okr_in ok_a0
  unfold F_X12_termOf_104 at hf
  refine lv_aload_n G.hx G.hb (dcs_get dec_X12_termOf_1 18 rfl) rfl (lv_at hl 0 rfl) ?_
  obtain ⟨z7, e_z7, ok_z7, hf⟩ := cR_some hf
  have k_z7 := okr_in ok_z7
  refine r_getr (k := 50) cls12 fi_12_50.1 fi_12_50.2 q_1058 G w k_a0.1 k_a0.2 e_z7 (dcs_get dec_X12_termOf_1 19 rfl) ?_
  refine lv_iload_n G.hx G.hb (dcs_get dec_X12_termOf_1 20 rfl) rfl (lv_at hl 2 rfl) ?_
  refine lv_iconst (v := (1 : Int32)) G.hx G.hb (dcs_get dec_X12_termOf_1 21 rfl) (by decide) ?_
  refine lv_isub G.hx G.hb (dcs_get dec_X12_termOf_1 22 rfl) ?_
  refine lv_iload G.hx G.hb (dcs_get dec_X12_termOf_1 23 rfl) (lv_at hl 4 rfl) ?_
  refine lv_iconst (v := (2 : Int32)) G.hx G.hb (dcs_get dec_X12_termOf_1 24 rfl) (by decide) ?_
  refine lv_icmp_ne (tgt := 125) G.hx G.hb (dcs_get dec_X12_termOf_1 25 rfl) (by decide) (fun hc => ?_) (fun hc => ?_)
  · rw [if_neg hc] at hf
    refine lv_iload G.hx G.hb (dcs_get dec_X12_termOf_1 30 rfl) (lv_at hl 4 rfl) ?_
    refine lv_iconst (v := (3 : Int32)) G.hx G.hb (dcs_get dec_X12_termOf_1 31 rfl) (by decide) ?_
    refine lv_icmp_ne (tgt := 139) G.hx G.hb (dcs_get dec_X12_termOf_1 32 rfl) (by decide) (fun hc => ?_) (fun hc => ?_)
    · rw [if_neg hc] at hf
      refine lv_iload G.hx G.hb (dcs_get dec_X12_termOf_1 37 rfl) (lv_at hl 4 rfl) ?_
      refine lv_iconst (v := (4 : Int32)) G.hx G.hb (dcs_get dec_X12_termOf_1 38 rfl) (by decide) ?_
      refine lv_icmp_ne (tgt := 153) G.hx G.hb (dcs_get dec_X12_termOf_1 39 rfl) (by decide) (fun hc => ?_) (fun hc => ?_)
      · rw [if_neg hc] at hf
        refine lv_iload G.hx G.hb (dcs_get dec_X12_termOf_2 4 rfl) (lv_at hl 5 rfl) ?_
        refine lv_iload G.hx G.hb (dcs_get dec_X12_termOf_2 5 rfl) (lv_at hl 6 rfl) ?_
        obtain ⟨h8, hf⟩ := cG_some hf
        refine lv_idiv G.hx G.hb (dcs_get dec_X12_termOf_2 6 rfl) (by simpa using h8) ?_
        exact B_X12_termOf_158 a0 l2 l3 l4 z7 (l3 - (1 : Int32)) (l6 / l7) σ G hm ok_a0 ok_z7 hf hb0 hr w (lv_sub hl [0, 1, 2, 3] rfl)
      · rw [if_pos hc] at hf
        refine lv_iload G.hx G.hb (dcs_get dec_X12_termOf_2 0 rfl) (lv_at hl 5 rfl) ?_
        refine lv_iload G.hx G.hb (dcs_get dec_X12_termOf_2 1 rfl) (lv_at hl 6 rfl) ?_
        refine lv_imul G.hx G.hb (dcs_get dec_X12_termOf_2 2 rfl) ?_
        refine lv_goto (tgt := 158) G.hx G.hb (dcs_get dec_X12_termOf_2 3 rfl) (by decide) ?_
        exact B_X12_termOf_158 a0 l2 l3 l4 z7 (l3 - (1 : Int32)) (l6 * l7) σ G hm ok_a0 ok_z7 hf hb0 hr w (lv_sub hl [0, 1, 2, 3] rfl)
    · rw [if_pos hc] at hf
      refine lv_iload G.hx G.hb (dcs_get dec_X12_termOf_1 33 rfl) (lv_at hl 5 rfl) ?_
      refine lv_iload G.hx G.hb (dcs_get dec_X12_termOf_1 34 rfl) (lv_at hl 6 rfl) ?_
      refine lv_isub G.hx G.hb (dcs_get dec_X12_termOf_1 35 rfl) ?_
      refine lv_goto (tgt := 158) G.hx G.hb (dcs_get dec_X12_termOf_1 36 rfl) (by decide) ?_
      exact B_X12_termOf_158 a0 l2 l3 l4 z7 (l3 - (1 : Int32)) (l6 - l7) σ G hm ok_a0 ok_z7 hf hb0 hr w (lv_sub hl [0, 1, 2, 3] rfl)
  · rw [if_pos hc] at hf
    refine lv_iload G.hx G.hb (dcs_get dec_X12_termOf_1 26 rfl) (lv_at hl 5 rfl) ?_
    refine lv_iload G.hx G.hb (dcs_get dec_X12_termOf_1 27 rfl) (lv_at hl 6 rfl) ?_
    refine lv_iadd G.hx G.hb (dcs_get dec_X12_termOf_1 28 rfl) ?_
    refine lv_goto (tgt := 158) G.hx G.hb (dcs_get dec_X12_termOf_1 29 rfl) (by decide) ?_
    exact B_X12_termOf_158 a0 l2 l3 l4 z7 (l3 - (1 : Int32)) (l6 + l7) σ G hm ok_a0 ok_z7 hf hb0 hr w (lv_sub hl [0, 1, 2, 3] rfl)
set_option maxRecDepth 100000 in
set_option maxHeartbeats 4000000 in
theorem B_X12_termOf_5b {H : Heap} {locs : List Loc} {ls : Array Slot} {r0 : Int32} {σ0 : hSt} {o : (Int32 × Int32 × hSt) ⊕ (Int32 × hSt)} (a0 : Nat) (l2 : Int32) (l3 : Int32) (l4 : Int32) (σ : hSt) (G : Gx p m c cX12_termOf 8 s args RX12 D ay NM ad (aN NM ad)) (hm : meth.sig.returnType = (some .int) ∧ meth.locks = false) (ok_a0 : okr kM NM 12 a0 = true) (hf : F_X12_termOf_5b a0 l2 l3 l4 σ = some o) (hb0 : ∀ (v : Int32 × Int32 × hSt), o = .inl v → ∀ (H : Heap) (locs : List Loc) (ls : Array Slot), Wd D ay kM NM ad (aN NM ad) s v.2.2 H locs → lv_has ls 8 [(0, .ref (ad a0)), (2, .int l2), (3, .int v.1), (4, .int v.2.1)] → W p l e (rmK 0 0) s m args below meth c H locs 0 0 (MQ below (cI D ay kM NM ad r0 σ0) args s 0 0 (aN NM ad)) (F0 m 5 ls [])) (hr : ∀ x, o = .inr (x) → x = (r0, σ0)) (w : Wd D ay kM NM ad (aN NM ad) s σ H locs) (hl : lv_has ls 8 [(0, .ref (ad a0)), (2, .int l2), (3, .int l3), (4, .int l4)]) : W p l e (rmK 0 0) s m args below meth c H locs 0 0 (MQ below (cI D ay kM NM ad r0 σ0) args s 0 0 (aN NM ad)) (F0 m 5 ls []) := by
  have k_a0 := okr_in ok_a0
  unfold F_X12_termOf_5b at hf
  refine lv_iload G.hx G.hb (dcs_get dec_X12_termOf_0 4 rfl) (lv_at hl 3 rfl) ?_
  refine lv_iload_n G.hx G.hb (dcs_get dec_X12_termOf_0 5 rfl) rfl (lv_at hl 1 rfl) ?_
  refine lv_icmp_ge (tgt := 165) G.hx G.hb (dcs_get dec_X12_termOf_0 6 rfl) (by decide) (fun hc => ?_) (fun hc => ?_)
  · rw [if_pos hc] at hf
    refine lv_aload_n G.hx G.hb (dcs_get dec_X12_termOf_2 10 rfl) rfl (lv_at hl 0 rfl) ?_
    obtain ⟨z9, e_z9, ok_z9, hf⟩ := cR_some hf
    have k_z9 := okr_in ok_z9
    refine r_getr (k := 50) cls12 fi_12_50.1 fi_12_50.2 q_1058 G w k_a0.1 k_a0.2 e_z9 (dcs_get dec_X12_termOf_2 11 rfl) ?_
    refine lv_iconst (v := (0 : Int32)) G.hx G.hb (dcs_get dec_X12_termOf_2 12 rfl) (by decide) ?_
    obtain ⟨h10, hf⟩ := cG_some hf
    refine r_iald G w k_z9.1 k_z9.2 h10 (dcs_get dec_X12_termOf_2 13 rfl) ?_
    have e9 := hr _ (Option.some.inj hf).symm
    exact r_iret G w hm (congrArg Prod.fst e9) (congrArg Prod.snd e9) (dcs_get dec_X12_termOf_2 14 rfl)
  · rw [if_neg hc] at hf
    refine lv_aload_n G.hx G.hb (dcs_get dec_X12_termOf_0 7 rfl) rfl (lv_at hl 0 rfl) ?_
    obtain ⟨z11, e_z11, ok_z11, hf⟩ := cR_some hf
    have k_z11 := okr_in ok_z11
    refine r_getr (k := 45) cls12 fi_12_45.1 fi_12_45.2 q_1053 G w k_a0.1 k_a0.2 e_z11 (dcs_get dec_X12_termOf_0 8 rfl) ?_
    refine lv_iload G.hx G.hb (dcs_get dec_X12_termOf_0 9 rfl) (lv_at hl 3 rfl) ?_
    obtain ⟨h12, hf⟩ := cG_some hf
    refine r_iald G w k_z11.1 k_z11.2 h12 (dcs_get dec_X12_termOf_0 10 rfl) ?_
    obtain ⟨v13, e_v13, hf⟩ := cL_some hf
    refine r_topi e_v13 ?_
    refine lv_istore (lv' := [(5, .int v13), (0, .ref (ad a0)), (2, .int l2), (3, .int l3), (4, .int l4)]) G.hx G.hb (dcs_get dec_X12_termOf_0 11 rfl) hl (by decide) rfl (fun ls hl => ?_)
    refine lv_iload G.hx G.hb (dcs_get dec_X12_termOf_0 12 rfl) (lv_at hl 0 rfl) ?_
    refine lv_iconst (v := (2 : Int32)) G.hx G.hb (dcs_get dec_X12_termOf_0 13 rfl) (by decide) ?_
    refine lv_icmp_ge (tgt := 65) G.hx G.hb (dcs_get dec_X12_termOf_0 14 rfl) (by decide) (fun hc => ?_) (fun hc => ?_)
    · rw [if_pos hc] at hf
      obtain ⟨v14, e_v14, hf⟩ := cL_some hf
      refine lv_iinc (v := v14) (lv' := [(3, .int v14), (5, .int v13), (0, .ref (ad a0)), (2, .int l2), (4, .int l4)]) G.hx G.hb (dcs_get dec_X12_termOf_0 35 rfl) hl (k := 3) rfl (by rw [e_v14]; rfl) (by decide) rfl (fun ls hl => ?_)
      refine lv_aload_n G.hx G.hb (dcs_get dec_X12_termOf_0 36 rfl) rfl (lv_at hl 2 rfl) ?_
      obtain ⟨z15, e_z15, ok_z15, hf⟩ := cR_some hf
      have k_z15 := okr_in ok_z15
      refine r_getr (k := 50) cls12 fi_12_50.1 fi_12_50.2 q_1058 G w k_a0.1 k_a0.2 e_z15 (dcs_get dec_X12_termOf_0 37 rfl) ?_
      refine lv_iload_n G.hx G.hb (dcs_get dec_X12_termOf_0 38 rfl) rfl (lv_at hl 0 rfl) ?_
      refine lv_iconst (v := (1 : Int32)) G.hx G.hb (dcs_get dec_X12_termOf_0 39 rfl) (by decide) ?_
      refine lv_isub G.hx G.hb (dcs_get dec_X12_termOf_1 0 rfl) ?_
      obtain ⟨h16, hf⟩ := cG_some hf
      refine r_iald G w k_z15.1 k_z15.2 h16 (dcs_get dec_X12_termOf_1 1 rfl) ?_
      obtain ⟨v17, e_v17, hf⟩ := cL_some hf
      refine r_topi e_v17 ?_
      refine lv_istore (lv' := [(6, .int v17), (3, .int v14), (5, .int v13), (0, .ref (ad a0)), (2, .int l2), (4, .int l4)]) G.hx G.hb (dcs_get dec_X12_termOf_1 2 rfl) hl (by decide) rfl (fun ls hl => ?_)
      refine lv_aload_n G.hx G.hb (dcs_get dec_X12_termOf_1 3 rfl) rfl (lv_at hl 3 rfl) ?_
      obtain ⟨z18, e_z18, ok_z18, hf⟩ := cR_some hf
      have k_z18 := okr_in ok_z18
      refine r_getr (k := 50) cls12 fi_12_50.1 fi_12_50.2 q_1058 G w k_a0.1 k_a0.2 e_z18 (dcs_get dec_X12_termOf_1 4 rfl) ?_
      refine lv_iload_n G.hx G.hb (dcs_get dec_X12_termOf_1 5 rfl) rfl (lv_at hl 1 rfl) ?_
      obtain ⟨h19, hf⟩ := cG_some hf
      refine r_iald G w k_z18.1 k_z18.2 h19 (dcs_get dec_X12_termOf_1 6 rfl) ?_
      obtain ⟨v20, e_v20, hf⟩ := cL_some hf
      refine r_topi e_v20 ?_
      refine lv_istore (lv' := [(7, .int v20), (6, .int v17), (3, .int v14), (5, .int v13), (0, .ref (ad a0)), (2, .int l2), (4, .int l4)]) G.hx G.hb (dcs_get dec_X12_termOf_1 7 rfl) hl (by decide) rfl (fun ls hl => ?_)
      refine lv_iload G.hx G.hb (dcs_get dec_X12_termOf_1 8 rfl) (lv_at hl 3 rfl) ?_
      refine lv_iconst (v := (5 : Int32)) G.hx G.hb (dcs_get dec_X12_termOf_1 9 rfl) (by decide) ?_
      refine lv_icmp_ne (tgt := 104) G.hx G.hb (dcs_get dec_X12_termOf_1 10 rfl) (by decide) (fun hc => ?_) (fun hc => ?_)
      · rw [if_neg hc] at hf
        exact B_X12_termOf_104 a0 l2 v14 l4 v13 v17 v20 σ G hm ok_a0 hf hb0 hr w (lv_sub hl [4, 5, 2, 6, 3, 1, 0] rfl)
      · rw [if_pos hc] at hf
        refine lv_iload G.hx G.hb (dcs_get dec_X12_termOf_1 11 rfl) (lv_at hl 0 rfl) ?_
        refine lv_if_ne (tgt := 104) G.hx G.hb (dcs_get dec_X12_termOf_1 12 rfl) (by decide) (fun hc => ?_) (fun hc => ?_)
        · rw [if_neg hc] at hf
          exact B_X12_termOf_104 a0 l2 v14 l4 v13 v17 v20 σ G hm ok_a0 hf hb0 hr w (lv_sub hl [4, 5, 2, 6, 3, 1, 0] rfl)
        · rw [if_pos hc] at hf
          refine lv_aload_n G.hx G.hb (dcs_get dec_X12_termOf_1 13 rfl) rfl (lv_at hl 4 rfl) ?_
          refine lv_iconst (v := (1 : Int32)) G.hx G.hb (dcs_get dec_X12_termOf_1 14 rfl) (by decide) ?_
          obtain ⟨σ21, e_σ21, hf⟩ := cL_some hf
          refine r_puti (k := 51) cls12 ct12 fi_12_51.1 fi_12_51.2 fp_12_51.1 fp_12_51.2 q_1059 rfl rfl G w k_a0.1 k_a0.2 (dcs_get dec_X12_termOf_1 15 rfl) (fun H locs w => ?_)
          have w := Wd.nm e_σ21 w
          refine lv_iconst (v := (0 : Int32)) G.hx G.hb (dcs_get dec_X12_termOf_1 16 rfl) (by decide) ?_
          have e9 := hr _ (Option.some.inj hf).symm
          exact r_iret G w hm (congrArg Prod.fst e9) (congrArg Prod.snd e9) (dcs_get dec_X12_termOf_1 17 rfl)
    · rw [if_neg hc] at hf
      refine lv_aload_n G.hx G.hb (dcs_get dec_X12_termOf_0 15 rfl) rfl (lv_at hl 1 rfl) ?_
      obtain ⟨z22, e_z22, ok_z22, hf⟩ := cR_some hf
      have k_z22 := okr_in ok_z22
      refine r_getr (k := 50) cls12 fi_12_50.1 fi_12_50.2 q_1058 G w k_a0.1 k_a0.2 e_z22 (dcs_get dec_X12_termOf_0 16 rfl) ?_
      refine lv_iload_n G.hx G.hb (dcs_get dec_X12_termOf_0 17 rfl) rfl (lv_at hl 3 rfl) ?_
      refine lv_iload G.hx G.hb (dcs_get dec_X12_termOf_0 18 rfl) (lv_at hl 0 rfl) ?_
      refine lv_if_ne (tgt := 46) G.hx G.hb (dcs_get dec_X12_termOf_0 19 rfl) (by decide) (fun hc => ?_) (fun hc => ?_)
      · rw [if_neg hc] at hf
        refine lv_aload_n G.hx G.hb (dcs_get dec_X12_termOf_0 25 rfl) rfl (lv_at hl 1 rfl) ?_
        obtain ⟨z23, e_z23, ok_z23, hf⟩ := cR_some hf
        have k_z23 := okr_in ok_z23
        refine r_getr (k := 49) cls12 fi_12_49.1 fi_12_49.2 q_1057 G w k_a0.1 k_a0.2 e_z23 (dcs_get dec_X12_termOf_0 26 rfl) ?_
        refine lv_aload_n G.hx G.hb (dcs_get dec_X12_termOf_0 27 rfl) rfl (lv_at hl 1 rfl) ?_
        obtain ⟨z24, e_z24, ok_z24, hf⟩ := cR_some hf
        have k_z24 := okr_in ok_z24
        refine r_getr (k := 46) cls12 fi_12_46.1 fi_12_46.2 q_1054 G w k_a0.1 k_a0.2 e_z24 (dcs_get dec_X12_termOf_0 28 rfl) ?_
        refine lv_iload G.hx G.hb (dcs_get dec_X12_termOf_0 29 rfl) (lv_at hl 4 rfl) ?_
        obtain ⟨h25, hf⟩ := cG_some hf
        refine r_iald G w k_z24.1 k_z24.2 h25 (dcs_get dec_X12_termOf_0 30 rfl) ?_
        obtain ⟨h26, hf⟩ := cG_some hf
        refine r_iald G w k_z23.1 k_z23.2 h26 (dcs_get dec_X12_termOf_0 31 rfl) ?_
        exact B_X12_termOf_58 a0 l2 l3 l4 z22 l3 (σ.1 z23 (σ.1 z24 l4.toNatClampNeg).toNatClampNeg) σ G hm ok_a0 ok_z22 hf hb0 hr w (lv_sub hl [1, 2, 3, 4] rfl)
      · rw [if_pos hc] at hf
        refine lv_aload_n G.hx G.hb (dcs_get dec_X12_termOf_0 20 rfl) rfl (lv_at hl 1 rfl) ?_
        obtain ⟨z27, e_z27, ok_z27, hf⟩ := cR_some hf
        have k_z27 := okr_in ok_z27
        refine r_getr (k := 46) cls12 fi_12_46.1 fi_12_46.2 q_1054 G w k_a0.1 k_a0.2 e_z27 (dcs_get dec_X12_termOf_0 21 rfl) ?_
        refine lv_iload G.hx G.hb (dcs_get dec_X12_termOf_0 22 rfl) (lv_at hl 4 rfl) ?_
        obtain ⟨h28, hf⟩ := cG_some hf
        refine r_iald G w k_z27.1 k_z27.2 h28 (dcs_get dec_X12_termOf_0 23 rfl) ?_
        refine lv_goto (tgt := 58) G.hx G.hb (dcs_get dec_X12_termOf_0 24 rfl) (by decide) ?_
        exact B_X12_termOf_58 a0 l2 l3 l4 z22 l3 (σ.1 z27 l4.toNatClampNeg) σ G hm ok_a0 ok_z22 hf hb0 hr w (lv_sub hl [1, 2, 3, 4] rfl)
set_option maxRecDepth 100000 in
set_option maxHeartbeats 4000000 in
theorem H_X12_termOf_5 {r0 : Int32} {σ0 : hSt} (a0 : Nat) (l2 : Int32) (G : Gx p m c cX12_termOf 8 s args RX12 D ay NM ad (aN NM ad)) (hm : meth.sig.returnType = (some .int) ∧ meth.locks = false) (ok_a0 : okr kM NM 12 a0 = true)  : ∀ (k : Nat) (v : Int32 × Int32 × hSt), lp (S_X12_termOf_5 a0 l2) k v = some (r0, σ0) → ∀ (H : Heap) (locs : List Loc) (ls : Array Slot), Wd D ay kM NM ad (aN NM ad) s v.2.2 H locs → lv_has ls 8 [(0, .ref (ad a0)), (2, .int l2), (3, .int v.1), (4, .int v.2.1)] → W p l e (rmK 0 0) s m args below meth c H locs 0 0 (MQ below (cI D ay kM NM ad r0 σ0) args s 0 0 (aN NM ad)) (F0 m 5 ls []) := by
  intro k
  induction k with
  | zero => intro v hf; cases hf
  | succ k ih =>
    intro v hf H locs ls w hl
    obtain ⟨o1, h1, h2, h3⟩ := lp_some hf
    exact B_X12_termOf_5b a0 l2 v.1 v.2.1 v.2.2 G hm ok_a0 h1  (fun v' e => ih v' (h2 v' e)) (fun x e => h3 x e) w hl
set_option maxRecDepth 100000 in
set_option maxHeartbeats 4000000 in
theorem B_X12_termOf_5 {H : Heap} {locs : List Loc} {ls : Array Slot} {r0 : Int32} {σ0 : hSt} (a0 : Nat) (l2 : Int32) (l3 : Int32) (l4 : Int32) (σ : hSt) (G : Gx p m c cX12_termOf 8 s args RX12 D ay NM ad (aN NM ad)) (hm : meth.sig.returnType = (some .int) ∧ meth.locks = false) (ok_a0 : okr kM NM 12 a0 = true) (hf : F_X12_termOf_5 a0 l2 l3 l4 σ = some (r0, σ0))  (w : Wd D ay kM NM ad (aN NM ad) s σ H locs) (hl : lv_has ls 8 [(0, .ref (ad a0)), (2, .int l2), (3, .int l3), (4, .int l4)]) : W p l e (rmK 0 0) s m args below meth c H locs 0 0 (MQ below (cI D ay kM NM ad r0 σ0) args s 0 0 (aN NM ad)) (F0 m 5 ls []) := by
  unfold F_X12_termOf_5 at hf
  exact H_X12_termOf_5 a0 l2  G hm ok_a0  fuel (l3, l4, σ) hf _ _ _ w hl
set_option maxRecDepth 100000 in
set_option maxHeartbeats 4000000 in
theorem B_X12_termOf_0 {H : Heap} {locs : List Loc} {ls : Array Slot} {r0 : Int32} {σ0 : hSt} (a0 : Nat) (l1 : Int32) (l2 : Int32) (σ : hSt) (G : Gx p m c cX12_termOf 8 s args RX12 D ay NM ad (aN NM ad)) (hm : meth.sig.returnType = (some .int) ∧ meth.locks = false) (ok_a0 : okr kM NM 12 a0 = true) (hf : F_X12_termOf a0 l1 l2 σ = some (r0, σ0))  (w : Wd D ay kM NM ad (aN NM ad) s σ H locs) (hl : lv_has ls 8 [(0, .ref (ad a0)), (1, .int l1), (2, .int l2)]) : W p l e (rmK 0 0) s m args below meth c H locs 0 0 (MQ below (cI D ay kM NM ad r0 σ0) args s 0 0 (aN NM ad)) (F0 m 0 ls []) := by
  have k_a0 := okr_in ok_a0
  unfold F_X12_termOf at hf
  refine lv_iconst (v := (0 : Int32)) G.hx G.hb (dcs_get dec_X12_termOf_0 0 rfl) (by decide) ?_
  refine lv_istore_n (lv' := [(3, .int (0 : Int32)), (0, .ref (ad a0)), (1, .int l1), (2, .int l2)]) G.hx G.hb (dcs_get dec_X12_termOf_0 1 rfl) rfl hl (by decide) rfl (fun ls hl => ?_)
  refine lv_iload_n G.hx G.hb (dcs_get dec_X12_termOf_0 2 rfl) rfl (lv_at hl 2 rfl) ?_
  refine lv_istore (lv' := [(4, .int l1), (3, .int (0 : Int32)), (0, .ref (ad a0)), (1, .int l1), (2, .int l2)]) G.hx G.hb (dcs_get dec_X12_termOf_0 3 rfl) hl (by decide) rfl (fun ls hl => ?_)
  exact B_X12_termOf_5 a0 l2 (0 : Int32) l1 σ G hm ok_a0 hf  w (lv_sub hl [2, 4, 1, 0] rfl)
end
set_option maxRecDepth 100000 in
set_option maxHeartbeats 4000000 in
theorem C_X12_termOf {l : Launch} {D : va_G} {ay : Nat → ClassId} {ad : Nat → Nat} (hi : hInj NM ad) (a0 : Nat) (l1 : Int32) (l2 : Int32) (σ : hSt) {r0 : Int32} {σ0 : hSt} (hf : F_X12_termOf a0 l1 l2 σ = some (r0, σ0)) (ok_a0 : okr kM NM 12 a0 = true) : hM l D ay kM NM ad yX12_termOf cX12_termOf 8 ((some .int)) (rmK 0 0) [.ref (ad a0), .int l1, .int l2] σ (cI D ay kM NM ad r0 σ0) := by
  refine hM_in (by decide) hi (Nat.le_of_ble_eq_true rfl) ?_
  intro p e s m below meth c G hm w ls hl
  exact B_X12_termOf_0 a0 l1 l2 σ G hm ok_a0 hf w (lv_sub hl [0, 1, 2] rfl)

/-! HillDrumsModel.in(III)Z -/
def DL_X12_in_0 : List (Nat × Instr × Nat) := [(0, .iload_n 0, 1), (1, .iload_n 1, 1), (2, .if_icmp .lt 12, 3), (5, .iload_n 0, 1), (6, .iload_n 2, 1), (7, .if_icmp .gt 7, 3), (10, .iconst 1, 1), (11, .goto 4, 3), (14, .iconst 0, 1), (15, .ireturn, 1)]
set_option maxRecDepth 100000 in
theorem dec_X12_in_0 : dcs cX12_in DL_X12_in_0 = true := by decide +kernel
theorem lb_X12_in : lkB yX12_in cX12_in 3 ((some .boolean)) 3 := ⟨q_1352, q_14, ⟨by decide, by decide⟩, by decide +kernel⟩
def F_X12_in_15 (s0 : Int32) (σ : hSt) : Option (Int32) :=
cG (isB s0) <|
some (s0)
def F_X12_in_14  (σ : hSt) : Option (Int32) :=
F_X12_in_15 (0 : Int32) σ
def F_X12_in (l0 : Int32) (l1 : Int32) (l2 : Int32) (σ : hSt) : Option (Int32) :=
if l0 < l1 then (
F_X12_in_14  σ) else (
if l2 < l0 then (
F_X12_in_14  σ) else (
F_X12_in_15 (1 : Int32) σ))
section
variable {p : Program} {l : Launch} {e : Env} {s : State} {m : MethodId} {args : Array Value} {below : List Frame} {meth : Method} {c : Code} {D : va_G} {ay : Nat → ClassId} {ad : Nat → Nat}
set_option maxRecDepth 100000 in
set_option maxHeartbeats 4000000 in
theorem B_X12_in_15 {H : Heap} {locs : List Loc} {ls : Array Slot} {r0 : Int32} (s0 : Int32) (σ : hSt) (G : Gx p m c cX12_in 3 s args RX12 D ay NM ad (aN NM ad)) (hm : meth.sig.returnType = (some .boolean) ∧ meth.locks = false)  (hf : F_X12_in_15 s0 σ = some r0)  (w : Wd D ay kM NM ad (aN NM ad) s σ H locs) (hl : lv_has ls 3 []) : W p l e (rmK 0 0) s m args below meth c H locs 0 0 (MQ below (cI D ay kM NM ad r0 σ) args s 0 0 (aN NM ad)) (F0 m 15 ls [.int s0]) := by
  unfold F_X12_in_15 at hf
  obtain ⟨h1, hf⟩ := cG_some hf
  have e9 := Option.some.inj hf
  exact r_zret (isB_nar h1) G w hm e9 rfl (dcs_get dec_X12_in_0 9 rfl)
set_option maxRecDepth 100000 in
set_option maxHeartbeats 4000000 in
theorem B_X12_in_14 {H : Heap} {locs : List Loc} {ls : Array Slot} {r0 : Int32}  (σ : hSt) (G : Gx p m c cX12_in 3 s args RX12 D ay NM ad (aN NM ad)) (hm : meth.sig.returnType = (some .boolean) ∧ meth.locks = false)  (hf : F_X12_in_14  σ = some r0)  (w : Wd D ay kM NM ad (aN NM ad) s σ H locs) (hl : lv_has ls 3 []) : W p l e (rmK 0 0) s m args below meth c H locs 0 0 (MQ below (cI D ay kM NM ad r0 σ) args s 0 0 (aN NM ad)) (F0 m 14 ls []) := by
  unfold F_X12_in_14 at hf
  refine lv_iconst (v := (0 : Int32)) G.hx G.hb (dcs_get dec_X12_in_0 8 rfl) (by decide) ?_
  exact B_X12_in_15 (0 : Int32) σ G hm  hf  w (lv_sub hl [] rfl)
set_option maxRecDepth 100000 in
set_option maxHeartbeats 4000000 in
theorem B_X12_in_0 {H : Heap} {locs : List Loc} {ls : Array Slot} {r0 : Int32} (l0 : Int32) (l1 : Int32) (l2 : Int32) (σ : hSt) (G : Gx p m c cX12_in 3 s args RX12 D ay NM ad (aN NM ad)) (hm : meth.sig.returnType = (some .boolean) ∧ meth.locks = false)  (hf : F_X12_in l0 l1 l2 σ = some r0)  (w : Wd D ay kM NM ad (aN NM ad) s σ H locs) (hl : lv_has ls 3 [(0, .int l0), (1, .int l1), (2, .int l2)]) : W p l e (rmK 0 0) s m args below meth c H locs 0 0 (MQ below (cI D ay kM NM ad r0 σ) args s 0 0 (aN NM ad)) (F0 m 0 ls []) := by
  unfold F_X12_in at hf
  refine lv_iload_n G.hx G.hb (dcs_get dec_X12_in_0 0 rfl) rfl (lv_at hl 0 rfl) ?_
  refine lv_iload_n G.hx G.hb (dcs_get dec_X12_in_0 1 rfl) rfl (lv_at hl 1 rfl) ?_
  refine lv_icmp_lt (tgt := 14) G.hx G.hb (dcs_get dec_X12_in_0 2 rfl) (by decide) (fun hc => ?_) (fun hc => ?_)
  · rw [if_pos hc] at hf
    exact B_X12_in_14  σ G hm  hf  w (lv_sub hl [] rfl)
  · rw [if_neg hc] at hf
    refine lv_iload_n G.hx G.hb (dcs_get dec_X12_in_0 3 rfl) rfl (lv_at hl 0 rfl) ?_
    refine lv_iload_n G.hx G.hb (dcs_get dec_X12_in_0 4 rfl) rfl (lv_at hl 2 rfl) ?_
    refine lv_icmp_gt (tgt := 14) G.hx G.hb (dcs_get dec_X12_in_0 5 rfl) (by decide) (fun hc => ?_) (fun hc => ?_)
    · rw [if_pos hc] at hf
      exact B_X12_in_14  σ G hm  hf  w (lv_sub hl [] rfl)
    · rw [if_neg hc] at hf
      refine lv_iconst (v := (1 : Int32)) G.hx G.hb (dcs_get dec_X12_in_0 6 rfl) (by decide) ?_
      refine lv_goto (tgt := 15) G.hx G.hb (dcs_get dec_X12_in_0 7 rfl) (by decide) ?_
      exact B_X12_in_15 (1 : Int32) σ G hm  hf  w (lv_sub hl [] rfl)
end
set_option maxRecDepth 100000 in
set_option maxHeartbeats 4000000 in
theorem C_X12_in {l : Launch} {D : va_G} {ay : Nat → ClassId} {ad : Nat → Nat} (hi : hInj NM ad) (l0 : Int32) (l1 : Int32) (l2 : Int32) (σ : hSt) {r0 : Int32} (hf : F_X12_in l0 l1 l2 σ = some r0)  : hM l D ay kM NM ad yX12_in cX12_in 3 ((some .boolean)) (rmK 0 0) [.int l0, .int l1, .int l2] σ (cI D ay kM NM ad r0 σ) := by
  refine hM_in (by decide) hi (Nat.le_of_ble_eq_true rfl) ?_
  intro p e s m below meth c G hm w ls hl
  exact B_X12_in_0 l0 l1 l2 σ G hm  hf w (lv_sub hl [0, 1, 2] rfl)

/-! HillDrumsModel.isHill(I)Z -/
def DL_X12_isHill_0 : List (Nat × Instr × Nat) := [(0, .iload_n 1, 1), (1, .iconst 0, 1), (2, .aload_n 0, 1), (3, .getfield 49, 3), (6, .aload_n 0, 1), (7, .getfield 236, 3), (10, .iaload, 1), (11, .iconst 1, 1), (12, .isub, 1), (13, .invokestatic 323, 3), (16, .ireturn, 1)]
set_option maxRecDepth 100000 in
theorem dec_X12_isHill_0 : dcs cX12_isHill DL_X12_isHill_0 = true := by decide +kernel
theorem lb_X12_isHill : lkB yX12_isHill cX12_isHill 2 ((some .boolean)) 1 := ⟨q_1349, q_14, ⟨by decide, by decide⟩, by decide +kernel⟩
theorem lv_X12_isHill : lkV yX12_isHill := ⟨q_1348, qs_93⟩
def F_X12_isHill (a0 : Nat) (l1 : Int32) (σ : hSt) : Option (Int32) :=
cR (σ.2.2 a0 24) (okr kM NM 101) fun z1 =>
cG (inb (σ.1 a0 18) (kM z1).2) <|
(F_X12_in l1 (0 : Int32) ((σ.1 z1 (σ.1 a0 18).toNatClampNeg) - (1 : Int32)) σ).bind fun v4 =>
cG (isB v4) <|
some (v4)
section
variable {p : Program} {l : Launch} {e : Env} {s : State} {m : MethodId} {args : Array Value} {below : List Frame} {meth : Method} {c : Code} {D : va_G} {ay : Nat → ClassId} {ad : Nat → Nat}
set_option maxRecDepth 100000 in
set_option maxHeartbeats 4000000 in
theorem B_X12_isHill_0 {H : Heap} {locs : List Loc} {ls : Array Slot} {r0 : Int32} (a0 : Nat) (l1 : Int32) (σ : hSt) (G : Gx p m c cX12_isHill 2 s args RX12 D ay NM ad (aN NM ad)) (hm : meth.sig.returnType = (some .boolean) ∧ meth.locks = false) (ok_a0 : okr kM NM 12 a0 = true) (hf : F_X12_isHill a0 l1 σ = some r0)  (w : Wd D ay kM NM ad (aN NM ad) s σ H locs) (hl : lv_has ls 2 [(0, .ref (ad a0)), (1, .int l1)]) : W p l e (rmK 1 22) s m args below meth c H locs 0 0 (MQ below (cI D ay kM NM ad r0 σ) args s 0 0 (aN NM ad)) (F0 m 0 ls []) := by
  have k_a0 := okr_in ok_a0
  unfold F_X12_isHill at hf
  refine lv_iload_n G.hx G.hb (dcs_get dec_X12_isHill_0 0 rfl) rfl (lv_at hl 1 rfl) ?_
  refine lv_iconst (v := (0 : Int32)) G.hx G.hb (dcs_get dec_X12_isHill_0 1 rfl) (by decide) ?_
  refine lv_aload_n G.hx G.hb (dcs_get dec_X12_isHill_0 2 rfl) rfl (lv_at hl 0 rfl) ?_
  obtain ⟨z1, e_z1, ok_z1, hf⟩ := cR_some hf
  have k_z1 := okr_in ok_z1
  refine r_getr (k := 24) cls12 fi_12_24.1 fi_12_24.2 q_1032 G w k_a0.1 k_a0.2 e_z1 (dcs_get dec_X12_isHill_0 3 rfl) ?_
  refine lv_aload_n G.hx G.hb (dcs_get dec_X12_isHill_0 4 rfl) rfl (lv_at hl 0 rfl) ?_
  refine r_geti (k := 18) cls12 fi_12_18.1 fi_12_18.2 q_1026 G w k_a0.1 k_a0.2 (dcs_get dec_X12_isHill_0 5 rfl) ?_
  obtain ⟨h2, hf⟩ := cG_some hf
  refine r_iald G w k_z1.1 k_z1.2 h2 (dcs_get dec_X12_isHill_0 6 rfl) ?_
  refine lv_iconst (v := (1 : Int32)) G.hx G.hb (dcs_get dec_X12_isHill_0 7 rfl) (by decide) ?_
  refine lv_isub G.hx G.hb (dcs_get dec_X12_isHill_0 8 rfl) ?_
  obtain ⟨v4, h3, hf⟩ := cB_some hf
  refine a_i (k_S (As := [.int l1, .int (0 : Int32), .int ((σ.1 z1 (σ.1 a0 18).toNatClampNeg) - (1 : Int32))]) (rest := []) lb_X12_in q_1351 q_1350 (C_X12_in G.2.2.1 l1 (0 : Int32) ((σ.1 z1 (σ.1 a0 18).toNatClampNeg) - (1 : Int32)) σ h3 ) ⟨(Nat.le_of_ble_eq_true rfl), (Nat.le_of_ble_eq_true rfl)⟩ G w rfl rfl hl.1 (Nat.le_of_ble_eq_true rfl) (dcs_get dec_X12_isHill_0 9 rfl) ⟨Nat.le_refl _, Nat.le_refl _⟩) G w (fun H locs w => ?_)
  obtain ⟨h5, hf⟩ := cG_some hf
  have e9 := Option.some.inj hf
  exact r_zret (isB_nar h5) G w hm e9 rfl (dcs_get dec_X12_isHill_0 10 rfl)
end
set_option maxRecDepth 100000 in
set_option maxHeartbeats 4000000 in
theorem C_X12_isHill {l : Launch} {D : va_G} {ay : Nat → ClassId} {ad : Nat → Nat} (hi : hInj NM ad) (a0 : Nat) (l1 : Int32) (σ : hSt) {r0 : Int32} (hf : F_X12_isHill a0 l1 σ = some r0) (ok_a0 : okr kM NM 12 a0 = true) : hM l D ay kM NM ad yX12_isHill cX12_isHill 2 ((some .boolean)) (rmK 1 22) [.ref (ad a0), .int l1] σ (cI D ay kM NM ad r0 σ) := by
  refine hM_in (by decide) hi (Nat.le_of_ble_eq_true rfl) ?_
  intro p e s m below meth c G hm w ls hl
  exact B_X12_isHill_0 a0 l1 σ G hm ok_a0 hf w (lv_sub hl [0, 1] rfl)

/-! HillDrumsModel.isNews(I)Z -/
def DL_X12_isNews_0 : List (Nat × Instr × Nat) := [(0, .iload_n 1, 1), (1, .iconst 0, 1), (2, .aload_n 0, 1), (3, .getfield 58, 3), (6, .aload_n 0, 1), (7, .getfield 236, 3), (10, .iaload, 1), (11, .iconst 1, 1), (12, .isub, 1), (13, .invokestatic 323, 3), (16, .ireturn, 1)]
set_option maxRecDepth 100000 in
theorem dec_X12_isNews_0 : dcs cX12_isNews DL_X12_isNews_0 = true := by decide +kernel
theorem lb_X12_isNews : lkB yX12_isNews cX12_isNews 2 ((some .boolean)) 1 := ⟨q_1379, q_14, ⟨by decide, by decide⟩, by decide +kernel⟩
theorem lv_X12_isNews : lkV yX12_isNews := ⟨q_1378, qs_98⟩
def F_X12_isNews (a0 : Nat) (l1 : Int32) (σ : hSt) : Option (Int32) :=
cR (σ.2.2 a0 27) (okr kM NM 101) fun z1 =>
cG (inb (σ.1 a0 18) (kM z1).2) <|
(F_X12_in l1 (0 : Int32) ((σ.1 z1 (σ.1 a0 18).toNatClampNeg) - (1 : Int32)) σ).bind fun v4 =>
cG (isB v4) <|
some (v4)
section
variable {p : Program} {l : Launch} {e : Env} {s : State} {m : MethodId} {args : Array Value} {below : List Frame} {meth : Method} {c : Code} {D : va_G} {ay : Nat → ClassId} {ad : Nat → Nat}
set_option maxRecDepth 100000 in
set_option maxHeartbeats 4000000 in
theorem B_X12_isNews_0 {H : Heap} {locs : List Loc} {ls : Array Slot} {r0 : Int32} (a0 : Nat) (l1 : Int32) (σ : hSt) (G : Gx p m c cX12_isNews 2 s args RX12 D ay NM ad (aN NM ad)) (hm : meth.sig.returnType = (some .boolean) ∧ meth.locks = false) (ok_a0 : okr kM NM 12 a0 = true) (hf : F_X12_isNews a0 l1 σ = some r0)  (w : Wd D ay kM NM ad (aN NM ad) s σ H locs) (hl : lv_has ls 2 [(0, .ref (ad a0)), (1, .int l1)]) : W p l e (rmK 1 22) s m args below meth c H locs 0 0 (MQ below (cI D ay kM NM ad r0 σ) args s 0 0 (aN NM ad)) (F0 m 0 ls []) := by
  have k_a0 := okr_in ok_a0
  unfold F_X12_isNews at hf
  refine lv_iload_n G.hx G.hb (dcs_get dec_X12_isNews_0 0 rfl) rfl (lv_at hl 1 rfl) ?_
  refine lv_iconst (v := (0 : Int32)) G.hx G.hb (dcs_get dec_X12_isNews_0 1 rfl) (by decide) ?_
  refine lv_aload_n G.hx G.hb (dcs_get dec_X12_isNews_0 2 rfl) rfl (lv_at hl 0 rfl) ?_
  obtain ⟨z1, e_z1, ok_z1, hf⟩ := cR_some hf
  have k_z1 := okr_in ok_z1
  refine r_getr (k := 27) cls12 fi_12_27.1 fi_12_27.2 q_1035 G w k_a0.1 k_a0.2 e_z1 (dcs_get dec_X12_isNews_0 3 rfl) ?_
  refine lv_aload_n G.hx G.hb (dcs_get dec_X12_isNews_0 4 rfl) rfl (lv_at hl 0 rfl) ?_
  refine r_geti (k := 18) cls12 fi_12_18.1 fi_12_18.2 q_1026 G w k_a0.1 k_a0.2 (dcs_get dec_X12_isNews_0 5 rfl) ?_
  obtain ⟨h2, hf⟩ := cG_some hf
  refine r_iald G w k_z1.1 k_z1.2 h2 (dcs_get dec_X12_isNews_0 6 rfl) ?_
  refine lv_iconst (v := (1 : Int32)) G.hx G.hb (dcs_get dec_X12_isNews_0 7 rfl) (by decide) ?_
  refine lv_isub G.hx G.hb (dcs_get dec_X12_isNews_0 8 rfl) ?_
  obtain ⟨v4, h3, hf⟩ := cB_some hf
  refine a_i (k_S (As := [.int l1, .int (0 : Int32), .int ((σ.1 z1 (σ.1 a0 18).toNatClampNeg) - (1 : Int32))]) (rest := []) lb_X12_in q_1351 q_1350 (C_X12_in G.2.2.1 l1 (0 : Int32) ((σ.1 z1 (σ.1 a0 18).toNatClampNeg) - (1 : Int32)) σ h3 ) ⟨(Nat.le_of_ble_eq_true rfl), (Nat.le_of_ble_eq_true rfl)⟩ G w rfl rfl hl.1 (Nat.le_of_ble_eq_true rfl) (dcs_get dec_X12_isNews_0 9 rfl) ⟨Nat.le_refl _, Nat.le_refl _⟩) G w (fun H locs w => ?_)
  obtain ⟨h5, hf⟩ := cG_some hf
  have e9 := Option.some.inj hf
  exact r_zret (isB_nar h5) G w hm e9 rfl (dcs_get dec_X12_isNews_0 10 rfl)
end
set_option maxRecDepth 100000 in
set_option maxHeartbeats 4000000 in
theorem C_X12_isNews {l : Launch} {D : va_G} {ay : Nat → ClassId} {ad : Nat → Nat} (hi : hInj NM ad) (a0 : Nat) (l1 : Int32) (σ : hSt) {r0 : Int32} (hf : F_X12_isNews a0 l1 σ = some r0) (ok_a0 : okr kM NM 12 a0 = true) : hM l D ay kM NM ad yX12_isNews cX12_isNews 2 ((some .boolean)) (rmK 1 22) [.ref (ad a0), .int l1] σ (cI D ay kM NM ad r0 σ) := by
  refine hM_in (by decide) hi (Nat.le_of_ble_eq_true rfl) ?_
  intro p e s m below meth c G hm w ls hl
  exact B_X12_isNews_0 a0 l1 σ G hm ok_a0 hf w (lv_sub hl [0, 1] rfl)

/-! HillDrumsModel.weatherOn(II)I -/
def DL_X12_weatherOn_0 : List (Nat × Instr × Nat) := [(0, .aload_n 0, 1), (1, .getfield 64, 3), (4, .iconst 2, 1), (5, .aload_n 0, 1), (6, .getfield 236, 3), (9, .imul, 1), (10, .iload_n 1, 1), (11, .iadd, 1), (12, .iaload, 1), (13, .istore_n 3, 1), (14, .iload_n 3, 1), (15, .ifCond .ne 7, 3), (18, .iconst 0, 1), (19, .goto 23, 3), (22, .aload_n 0, 1), (23, .getfield 67, 3), (26, .bipush 12, 2), (28, .iconst 2, 1), (29, .aload_n 0, 1), (30, .getfield 236, 3), (33, .imul, 1), (34, .iload_n 1, 1), (35, .iadd, 1), (36, .imul, 1), (37, .iload_n 2, 1), (38, .iload_n 3, 1), (39, .irem, 1), (40, .iadd, 1), (41, .iaload, 1), (42, .ireturn, 1)]
set_option maxRecDepth 100000 in
theorem dec_X12_weatherOn_0 : dcs cX12_weatherOn DL_X12_weatherOn_0 = true := by decide +kernel
theorem lb_X12_weatherOn : lkB yX12_weatherOn cX12_weatherOn 4 ((some .int)) 2 := ⟨q_1367, q_14, ⟨by decide, by decide⟩, by decide +kernel⟩
theorem lv_X12_weatherOn : lkV yX12_weatherOn := ⟨q_1366, qs_96⟩
def F_X12_weatherOn_42 (s0 : Int32) (σ : hSt) : Option (Int32) :=
some (s0)
def F_X12_weatherOn (a0 : Nat) (l1 : Int32) (l2 : Int32) (σ : hSt) : Option (Int32) :=
cR (σ.2.2 a0 29) (okr kM NM 101) fun z1 =>
cG (inb (((2 : Int32) * (σ.1 a0 18)) + l1) (kM z1).2) <|
cL (σ.1 z1 (((2 : Int32) * (σ.1 a0 18)) + l1).toNatClampNeg) fun v3 =>
if v3 = 0 then (
F_X12_weatherOn_42 (0 : Int32) σ) else (
cR (σ.2.2 a0 30) (okr kM NM 101) fun z4 =>
cG (!decide (v3 = 0)) <|
cG (inb (((12 : Int32) * (((2 : Int32) * (σ.1 a0 18)) + l1)) + (l2 - l2 / v3 * v3)) (kM z4).2) <|
F_X12_weatherOn_42 (σ.1 z4 (((12 : Int32) * (((2 : Int32) * (σ.1 a0 18)) + l1)) + (l2 - l2 / v3 * v3)).toNatClampNeg) σ)
section
variable {p : Program} {l : Launch} {e : Env} {s : State} {m : MethodId} {args : Array Value} {below : List Frame} {meth : Method} {c : Code} {D : va_G} {ay : Nat → ClassId} {ad : Nat → Nat}
set_option maxRecDepth 100000 in
set_option maxHeartbeats 4000000 in
theorem B_X12_weatherOn_42 {H : Heap} {locs : List Loc} {ls : Array Slot} {r0 : Int32} (s0 : Int32) (σ : hSt) (G : Gx p m c cX12_weatherOn 4 s args RX12 D ay NM ad (aN NM ad)) (hm : meth.sig.returnType = (some .int) ∧ meth.locks = false)  (hf : F_X12_weatherOn_42 s0 σ = some r0)  (w : Wd D ay kM NM ad (aN NM ad) s σ H locs) (hl : lv_has ls 4 []) : W p l e (rmK 0 0) s m args below meth c H locs 0 0 (MQ below (cI D ay kM NM ad r0 σ) args s 0 0 (aN NM ad)) (F0 m 42 ls [.int s0]) := by
  unfold F_X12_weatherOn_42 at hf
  have e9 := Option.some.inj hf
  exact r_iret G w hm e9 rfl (dcs_get dec_X12_weatherOn_0 29 rfl)
set_option maxRecDepth 100000 in
set_option maxHeartbeats 4000000 in
theorem B_X12_weatherOn_0 {H : Heap} {locs : List Loc} {ls : Array Slot} {r0 : Int32} (a0 : Nat) (l1 : Int32) (l2 : Int32) (σ : hSt) (G : Gx p m c cX12_weatherOn 4 s args RX12 D ay NM ad (aN NM ad)) (hm : meth.sig.returnType = (some .int) ∧ meth.locks = false) (ok_a0 : okr kM NM 12 a0 = true) (hf : F_X12_weatherOn a0 l1 l2 σ = some r0)  (w : Wd D ay kM NM ad (aN NM ad) s σ H locs) (hl : lv_has ls 4 [(0, .ref (ad a0)), (1, .int l1), (2, .int l2)]) : W p l e (rmK 0 0) s m args below meth c H locs 0 0 (MQ below (cI D ay kM NM ad r0 σ) args s 0 0 (aN NM ad)) (F0 m 0 ls []) := by
  have k_a0 := okr_in ok_a0
  unfold F_X12_weatherOn at hf
  refine lv_aload_n G.hx G.hb (dcs_get dec_X12_weatherOn_0 0 rfl) rfl (lv_at hl 0 rfl) ?_
  obtain ⟨z1, e_z1, ok_z1, hf⟩ := cR_some hf
  have k_z1 := okr_in ok_z1
  refine r_getr (k := 29) cls12 fi_12_29.1 fi_12_29.2 q_1037 G w k_a0.1 k_a0.2 e_z1 (dcs_get dec_X12_weatherOn_0 1 rfl) ?_
  refine lv_iconst (v := (2 : Int32)) G.hx G.hb (dcs_get dec_X12_weatherOn_0 2 rfl) (by decide) ?_
  refine lv_aload_n G.hx G.hb (dcs_get dec_X12_weatherOn_0 3 rfl) rfl (lv_at hl 0 rfl) ?_
  refine r_geti (k := 18) cls12 fi_12_18.1 fi_12_18.2 q_1026 G w k_a0.1 k_a0.2 (dcs_get dec_X12_weatherOn_0 4 rfl) ?_
  refine lv_imul G.hx G.hb (dcs_get dec_X12_weatherOn_0 5 rfl) ?_
  refine lv_iload_n G.hx G.hb (dcs_get dec_X12_weatherOn_0 6 rfl) rfl (lv_at hl 1 rfl) ?_
  refine lv_iadd G.hx G.hb (dcs_get dec_X12_weatherOn_0 7 rfl) ?_
  obtain ⟨h2, hf⟩ := cG_some hf
  refine r_iald G w k_z1.1 k_z1.2 h2 (dcs_get dec_X12_weatherOn_0 8 rfl) ?_
  obtain ⟨v3, e_v3, hf⟩ := cL_some hf
  refine r_topi e_v3 ?_
  refine lv_istore_n (lv' := [(3, .int v3), (0, .ref (ad a0)), (1, .int l1), (2, .int l2)]) G.hx G.hb (dcs_get dec_X12_weatherOn_0 9 rfl) rfl hl (by decide) rfl (fun ls hl => ?_)
  refine lv_iload_n G.hx G.hb (dcs_get dec_X12_weatherOn_0 10 rfl) rfl (lv_at hl 0 rfl) ?_
  refine lv_if_ne (tgt := 22) G.hx G.hb (dcs_get dec_X12_weatherOn_0 11 rfl) (by decide) (fun hc => ?_) (fun hc => ?_)
  · rw [if_neg hc] at hf
    refine lv_aload_n G.hx G.hb (dcs_get dec_X12_weatherOn_0 14 rfl) rfl (lv_at hl 1 rfl) ?_
    obtain ⟨z4, e_z4, ok_z4, hf⟩ := cR_some hf
    have k_z4 := okr_in ok_z4
    refine r_getr (k := 30) cls12 fi_12_30.1 fi_12_30.2 q_1038 G w k_a0.1 k_a0.2 e_z4 (dcs_get dec_X12_weatherOn_0 15 rfl) ?_
    refine lv_bipush (v := (12 : Int32)) G.hx G.hb (dcs_get dec_X12_weatherOn_0 16 rfl) (by decide) ?_
    refine lv_iconst (v := (2 : Int32)) G.hx G.hb (dcs_get dec_X12_weatherOn_0 17 rfl) (by decide) ?_
    refine lv_aload_n G.hx G.hb (dcs_get dec_X12_weatherOn_0 18 rfl) rfl (lv_at hl 1 rfl) ?_
    refine r_geti (k := 18) cls12 fi_12_18.1 fi_12_18.2 q_1026 G w k_a0.1 k_a0.2 (dcs_get dec_X12_weatherOn_0 19 rfl) ?_
    refine lv_imul G.hx G.hb (dcs_get dec_X12_weatherOn_0 20 rfl) ?_
    refine lv_iload_n G.hx G.hb (dcs_get dec_X12_weatherOn_0 21 rfl) rfl (lv_at hl 2 rfl) ?_
    refine lv_iadd G.hx G.hb (dcs_get dec_X12_weatherOn_0 22 rfl) ?_
    refine lv_imul G.hx G.hb (dcs_get dec_X12_weatherOn_0 23 rfl) ?_
    refine lv_iload_n G.hx G.hb (dcs_get dec_X12_weatherOn_0 24 rfl) rfl (lv_at hl 3 rfl) ?_
    refine lv_iload_n G.hx G.hb (dcs_get dec_X12_weatherOn_0 25 rfl) rfl (lv_at hl 0 rfl) ?_
    obtain ⟨h5, hf⟩ := cG_some hf
    refine lv_irem G.hx G.hb (dcs_get dec_X12_weatherOn_0 26 rfl) (by simpa using h5) ?_
    refine lv_iadd G.hx G.hb (dcs_get dec_X12_weatherOn_0 27 rfl) ?_
    obtain ⟨h6, hf⟩ := cG_some hf
    refine r_iald G w k_z4.1 k_z4.2 h6 (dcs_get dec_X12_weatherOn_0 28 rfl) ?_
    exact B_X12_weatherOn_42 (σ.1 z4 (((12 : Int32) * (((2 : Int32) * (σ.1 a0 18)) + l1)) + (l2 - l2 / v3 * v3)).toNatClampNeg) σ G hm  hf  w (lv_sub hl [] rfl)
  · rw [if_pos hc] at hf
    refine lv_iconst (v := (0 : Int32)) G.hx G.hb (dcs_get dec_X12_weatherOn_0 12 rfl) (by decide) ?_
    refine lv_goto (tgt := 42) G.hx G.hb (dcs_get dec_X12_weatherOn_0 13 rfl) (by decide) ?_
    exact B_X12_weatherOn_42 (0 : Int32) σ G hm  hf  w (lv_sub hl [] rfl)
end
set_option maxRecDepth 100000 in
set_option maxHeartbeats 4000000 in
theorem C_X12_weatherOn {l : Launch} {D : va_G} {ay : Nat → ClassId} {ad : Nat → Nat} (hi : hInj NM ad) (a0 : Nat) (l1 : Int32) (l2 : Int32) (σ : hSt) {r0 : Int32} (hf : F_X12_weatherOn a0 l1 l2 σ = some r0) (ok_a0 : okr kM NM 12 a0 = true) : hM l D ay kM NM ad yX12_weatherOn cX12_weatherOn 4 ((some .int)) (rmK 0 0) [.ref (ad a0), .int l1, .int l2] σ (cI D ay kM NM ad r0 σ) := by
  refine hM_in (by decide) hi (Nat.le_of_ble_eq_true rfl) ?_
  intro p e s m below meth c G hm w ls hl
  exact B_X12_weatherOn_0 a0 l1 l2 σ G hm ok_a0 hf w (lv_sub hl [0, 1, 2] rfl)

/-! HillDrumsModel.apart(II)I -/
def DL_X12_apart_0 : List (Nat × Instr × Nat) := [(0, .iload_n 0, 1), (1, .iload_n 1, 1), (2, .if_icmp .ge 9, 3), (5, .iload_n 1, 1), (6, .iload_n 0, 1), (7, .isub, 1), (8, .goto 6, 3), (11, .iload_n 0, 1), (12, .iload_n 1, 1), (13, .isub, 1), (14, .ireturn, 1)]
set_option maxRecDepth 100000 in
theorem dec_X12_apart_0 : dcs cX12_apart DL_X12_apart_0 = true := by decide +kernel
theorem lb_X12_apart : lkB yX12_apart cX12_apart 2 ((some .int)) 2 := ⟨q_1363, q_14, ⟨by decide, by decide⟩, by decide +kernel⟩
def F_X12_apart_14 (s0 : Int32) (σ : hSt) : Option (Int32) :=
some (s0)
def F_X12_apart (l0 : Int32) (l1 : Int32) (σ : hSt) : Option (Int32) :=
if l1 ≤ l0 then (
F_X12_apart_14 (l0 - l1) σ) else (
F_X12_apart_14 (l1 - l0) σ)
section
variable {p : Program} {l : Launch} {e : Env} {s : State} {m : MethodId} {args : Array Value} {below : List Frame} {meth : Method} {c : Code} {D : va_G} {ay : Nat → ClassId} {ad : Nat → Nat}
set_option maxRecDepth 100000 in
set_option maxHeartbeats 4000000 in
theorem B_X12_apart_14 {H : Heap} {locs : List Loc} {ls : Array Slot} {r0 : Int32} (s0 : Int32) (σ : hSt) (G : Gx p m c cX12_apart 2 s args RX12 D ay NM ad (aN NM ad)) (hm : meth.sig.returnType = (some .int) ∧ meth.locks = false)  (hf : F_X12_apart_14 s0 σ = some r0)  (w : Wd D ay kM NM ad (aN NM ad) s σ H locs) (hl : lv_has ls 2 []) : W p l e (rmK 0 0) s m args below meth c H locs 0 0 (MQ below (cI D ay kM NM ad r0 σ) args s 0 0 (aN NM ad)) (F0 m 14 ls [.int s0]) := by
  unfold F_X12_apart_14 at hf
  have e9 := Option.some.inj hf
  exact r_iret G w hm e9 rfl (dcs_get dec_X12_apart_0 10 rfl)
set_option maxRecDepth 100000 in
set_option maxHeartbeats 4000000 in
theorem B_X12_apart_0 {H : Heap} {locs : List Loc} {ls : Array Slot} {r0 : Int32} (l0 : Int32) (l1 : Int32) (σ : hSt) (G : Gx p m c cX12_apart 2 s args RX12 D ay NM ad (aN NM ad)) (hm : meth.sig.returnType = (some .int) ∧ meth.locks = false)  (hf : F_X12_apart l0 l1 σ = some r0)  (w : Wd D ay kM NM ad (aN NM ad) s σ H locs) (hl : lv_has ls 2 [(0, .int l0), (1, .int l1)]) : W p l e (rmK 0 0) s m args below meth c H locs 0 0 (MQ below (cI D ay kM NM ad r0 σ) args s 0 0 (aN NM ad)) (F0 m 0 ls []) := by
  unfold F_X12_apart at hf
  refine lv_iload_n G.hx G.hb (dcs_get dec_X12_apart_0 0 rfl) rfl (lv_at hl 0 rfl) ?_
  refine lv_iload_n G.hx G.hb (dcs_get dec_X12_apart_0 1 rfl) rfl (lv_at hl 1 rfl) ?_
  refine lv_icmp_ge (tgt := 11) G.hx G.hb (dcs_get dec_X12_apart_0 2 rfl) (by decide) (fun hc => ?_) (fun hc => ?_)
  · rw [if_pos hc] at hf
    refine lv_iload_n G.hx G.hb (dcs_get dec_X12_apart_0 7 rfl) rfl (lv_at hl 0 rfl) ?_
    refine lv_iload_n G.hx G.hb (dcs_get dec_X12_apart_0 8 rfl) rfl (lv_at hl 1 rfl) ?_
    refine lv_isub G.hx G.hb (dcs_get dec_X12_apart_0 9 rfl) ?_
    exact B_X12_apart_14 (l0 - l1) σ G hm  hf  w (lv_sub hl [] rfl)
  · rw [if_neg hc] at hf
    refine lv_iload_n G.hx G.hb (dcs_get dec_X12_apart_0 3 rfl) rfl (lv_at hl 1 rfl) ?_
    refine lv_iload_n G.hx G.hb (dcs_get dec_X12_apart_0 4 rfl) rfl (lv_at hl 0 rfl) ?_
    refine lv_isub G.hx G.hb (dcs_get dec_X12_apart_0 5 rfl) ?_
    refine lv_goto (tgt := 14) G.hx G.hb (dcs_get dec_X12_apart_0 6 rfl) (by decide) ?_
    exact B_X12_apart_14 (l1 - l0) σ G hm  hf  w (lv_sub hl [] rfl)
end
set_option maxRecDepth 100000 in
set_option maxHeartbeats 4000000 in
theorem C_X12_apart {l : Launch} {D : va_G} {ay : Nat → ClassId} {ad : Nat → Nat} (hi : hInj NM ad) (l0 : Int32) (l1 : Int32) (σ : hSt) {r0 : Int32} (hf : F_X12_apart l0 l1 σ = some r0)  : hM l D ay kM NM ad yX12_apart cX12_apart 2 ((some .int)) (rmK 0 0) [.int l0, .int l1] σ (cI D ay kM NM ad r0 σ) := by
  refine hM_in (by decide) hi (Nat.le_of_ble_eq_true rfl) ?_
  intro p e s m below meth c G hm w ls hl
  exact B_X12_apart_0 l0 l1 σ G hm  hf w (lv_sub hl [0, 1] rfl)

/-! HillDrumsModel.tellsOf(III)I -/
def DL_X12_tellsOf_0 : List (Nat × Instr × Nat) := [(0, .aload_n 0, 1), (1, .getfield 52, 3), (4, .bipush 6, 2), (6, .aload_n 0, 1), (7, .getfield 236, 3), (10, .imul, 1), (11, .iload_n 1, 1), (12, .iadd, 1), (13, .iaload, 1), (14, .aload_n 0, 1), (15, .getfield 52, 3), (18, .bipush 6, 2), (20, .aload_n 0, 1), (21, .getfield 236, 3), (24, .imul, 1), (25, .iload_n 2, 1), (26, .iadd, 1), (27, .iaload, 1), (28, .invokestatic 327, 3), (31, .aload_n 0, 1), (32, .getfield 55, 3), (35, .bipush 6, 2), (37, .aload_n 0, 1), (38, .getfield 236, 3), (41, .imul, 1), (42, .iload_n 1, 1), (43, .iadd, 1), (44, .iaload, 1), (45, .aload_n 0, 1), (46, .getfield 55, 3), (49, .bipush 6, 2), (51, .aload_n 0, 1), (52, .getfield 236, 3), (55, .imul, 1), (56, .iload_n 2, 1), (57, .iadd, 1), (58, .iaload, 1), (59, .invokestatic 327, 3), (62, .iadd, 1), (63, .istore 4, 2)]
set_option maxRecDepth 100000 in
theorem dec_X12_tellsOf_0 : dcs cX12_tellsOf DL_X12_tellsOf_0 = true := by decide +kernel
def DL_X12_tellsOf_1 : List (Nat × Instr × Nat) := [(65, .aload_n 0, 1), (66, .getfield 85, 3), (69, .aload_n 0, 1), (70, .getfield 236, 3), (73, .iaload, 1), (74, .istore 5, 2), (76, .aload_n 0, 1), (77, .getfield 88, 3), (80, .aload_n 0, 1), (81, .getfield 236, 3), (84, .iaload, 1), (85, .istore 6, 2), (87, .iload 5, 2), (89, .iload 6, 2), (91, .if_icmp .ne 9, 3), (94, .bipush 10, 2), (96, .iload 4, 2), (98, .isub, 1), (99, .ireturn, 1), (100, .aload_n 0, 1), (101, .getfield 116, 3), (104, .iconst 0, 1), (105, .iload 4, 2), (107, .iastore, 1), (108, .aload_n 0, 1), (109, .getfield 116, 3), (112, .iconst 1, 1), (113, .aload_n 0, 1), (114, .iconst 0, 1), (115, .iload_n 3, 1), (116, .invokevirtual 330, 3), (119, .iastore, 1), (120, .aload_n 0, 1), (121, .getfield 116, 3), (124, .iconst 2, 1), (125, .aload_n 0, 1), (126, .iconst 1, 1), (127, .iload_n 3, 1), (128, .invokevirtual 330, 3), (131, .iastore, 1)]
set_option maxRecDepth 100000 in
theorem dec_X12_tellsOf_1 : dcs cX12_tellsOf DL_X12_tellsOf_1 = true := by decide +kernel
def DL_X12_tellsOf_2 : List (Nat × Instr × Nat) := [(132, .aload_n 0, 1), (133, .getfield 116, 3), (136, .iconst 3, 1), (137, .iload_n 3, 1), (138, .iastore, 1), (139, .aload_n 0, 1), (140, .getfield 116, 3), (143, .iconst 4, 1), (144, .iload_n 1, 1), (145, .iastore, 1), (146, .aload_n 0, 1), (147, .getfield 116, 3), (150, .iconst 5, 1), (151, .iload_n 2, 1), (152, .iastore, 1), (153, .aload_n 0, 1), (154, .iconst 0, 1), (155, .putfield 319, 3), (158, .iload 5, 2), (160, .istore 7, 2), (162, .iload 7, 2), (164, .iload 6, 2), (166, .if_icmp .ge 112, 3), (169, .aload_n 0, 1), (170, .getfield 91, 3), (173, .iload 7, 2), (175, .baload, 1), (176, .ifCond .eq 62, 3), (179, .aload_n 0, 1), (180, .aload_n 0, 1), (181, .getfield 95, 3), (184, .iload 7, 2), (186, .iaload, 1), (187, .aload_n 0, 1), (188, .getfield 98, 3), (191, .iload 7, 2), (193, .iaload, 1), (194, .invokevirtual 333, 3), (197, .istore 8, 2), (199, .aload_n 0, 1)]
set_option maxRecDepth 100000 in
theorem dec_X12_tellsOf_2 : dcs cX12_tellsOf DL_X12_tellsOf_2 = true := by decide +kernel
def DL_X12_tellsOf_3 : List (Nat × Instr × Nat) := [(200, .aload_n 0, 1), (201, .getfield 98, 3), (204, .iload 7, 2), (206, .iaload, 1), (207, .aload_n 0, 1), (208, .getfield 101, 3), (211, .iload 7, 2), (213, .iaload, 1), (214, .invokevirtual 333, 3), (217, .istore 9, 2), (219, .aload_n 0, 1), (220, .getfield 319, 3), (223, .ifCond .eq 5, 3), (226, .iconst 0, 1), (227, .ireturn, 1), (228, .iload 8, 2), (230, .iload 9, 2), (232, .if_icmp .lt 6, 3), (235, .goto 37, 3), (238, .aload_n 0, 1), (239, .aload_n 0, 1), (240, .getfield 101, 3), (243, .iload 7, 2), (245, .iaload, 1), (246, .aload_n 0, 1), (247, .getfield 104, 3), (250, .iload 7, 2), (252, .iaload, 1), (253, .invokevirtual 333, 3), (256, .istore 8, 2), (258, .aload_n 0, 1), (259, .getfield 319, 3), (262, .ifCond .eq 7, 3), (265, .iconst 0, 1), (266, .goto 5, 3), (269, .iload 8, 2), (271, .ireturn, 1), (272, .iinc 7 1, 3), (275, .goto (-113), 3), (278, .iconst 0, 1)]
set_option maxRecDepth 100000 in
theorem dec_X12_tellsOf_3 : dcs cX12_tellsOf DL_X12_tellsOf_3 = true := by decide +kernel
def DL_X12_tellsOf_4 : List (Nat × Instr × Nat) := [(279, .ireturn, 1)]
set_option maxRecDepth 100000 in
theorem dec_X12_tellsOf_4 : dcs cX12_tellsOf DL_X12_tellsOf_4 = true := by decide +kernel
theorem lb_X12_tellsOf : lkB yX12_tellsOf cX12_tellsOf 10 ((some .int)) 3 := ⟨q_1360, q_14, ⟨by decide, by decide⟩, by decide +kernel⟩
theorem lv_X12_tellsOf : lkV yX12_tellsOf := ⟨q_1359, qs_95⟩
def F_X12_tellsOf_271 (s0 : Int32) (σ : hSt) : Option (Int32 × hSt) :=
some ((s0, σ))
def F_X12_tellsOf_238 (a0 : Nat) (l7 : Int32) (σ : hSt) : Option (Int32 × hSt) :=
cR (σ.2.2 a0 42) (okr kM NM 101) fun z1 =>
cG (inb l7 (kM z1).2) <|
cR (σ.2.2 a0 43) (okr kM NM 101) fun z3 =>
cG (inb l7 (kM z3).2) <|
cC (F_X12_termOf a0 (σ.1 z1 l7.toNatClampNeg) (σ.1 z3 l7.toNatClampNeg) σ) fun v6 σ7 =>
if (σ7.1 a0 51) = 0 then (
F_X12_tellsOf_271 v6 σ7) else (
F_X12_tellsOf_271 (0 : Int32) σ7)
def F_X12_tellsOf_162b (a0 : Nat) (l6 : Int32) (l7 : Int32) (σ : hSt) : Option ((Int32 × hSt) ⊕ (Int32 × hSt)) :=
if l6 ≤ l7 then (
some (.inr (((0 : Int32), σ)))) else (
cR (σ.2.2 a0 39) (okr kM NM 102) fun z8 =>
cG (inb l7 (kM z8).2) <|
if (σ.1 z8 l7.toNatClampNeg) = 0 then (
(F_X12_tellsOf_238 a0 l7 σ).map (fun x => .inr (x))) else (
cR (σ.2.2 a0 40) (okr kM NM 101) fun z10 =>
cG (inb l7 (kM z10).2) <|
cR (σ.2.2 a0 41) (okr kM NM 101) fun z12 =>
cG (inb l7 (kM z12).2) <|
cC (F_X12_termOf a0 (σ.1 z10 l7.toNatClampNeg) (σ.1 z12 l7.toNatClampNeg) σ) fun v15 σ16 =>
cR (σ16.2.2 a0 41) (okr kM NM 101) fun z17 =>
cG (inb l7 (kM z17).2) <|
cR (σ16.2.2 a0 42) (okr kM NM 101) fun z19 =>
cG (inb l7 (kM z19).2) <|
cC (F_X12_termOf a0 (σ16.1 z17 l7.toNatClampNeg) (σ16.1 z19 l7.toNatClampNeg) σ16) fun v22 σ23 =>
if (σ23.1 a0 51) = 0 then (
if v15 < v22 then (
(F_X12_tellsOf_238 a0 l7 σ23).map (fun x => .inr (x))) else (
cL (l7 + (1 : Int32)) fun v24 =>
some (.inl (v24, σ23)))) else (
some (.inr (((0 : Int32), σ23))))))
def S_X12_tellsOf_162 (a0 : Nat) (l6 : Int32) (v : Int32 × hSt) : Option ((Int32 × hSt) ⊕ (Int32 × hSt)) := F_X12_tellsOf_162b a0 l6 v.1 v.2
def F_X12_tellsOf_162 (a0 : Nat) (l6 : Int32) (l7 : Int32) (σ : hSt) : Option (Int32 × hSt) := lp (S_X12_tellsOf_162 a0 l6) fuel (l7, σ)
def F_X12_tellsOf (a0 : Nat) (l1 : Int32) (l2 : Int32) (l3 : Int32) (σ : hSt) : Option (Int32 × hSt) :=
cR (σ.2.2 a0 25) (okr kM NM 101) fun z25 =>
cG (inb (((6 : Int32) * (σ.1 a0 18)) + l1) (kM z25).2) <|
cR (σ.2.2 a0 25) (okr kM NM 101) fun z27 =>
cG (inb (((6 : Int32) * (σ.1 a0 18)) + l2) (kM z27).2) <|
(F_X12_apart (σ.1 z25 (((6 : Int32) * (σ.1 a0 18)) + l1).toNatClampNeg) (σ.1 z27 (((6 : Int32) * (σ.1 a0 18)) + l2).toNatClampNeg) σ).bind fun v30 =>
cR (σ.2.2 a0 26) (okr kM NM 101) fun z31 =>
cG (inb (((6 : Int32) * (σ.1 a0 18)) + l1) (kM z31).2) <|
cR (σ.2.2 a0 26) (okr kM NM 101) fun z33 =>
cG (inb (((6 : Int32) * (σ.1 a0 18)) + l2) (kM z33).2) <|
(F_X12_apart (σ.1 z31 (((6 : Int32) * (σ.1 a0 18)) + l1).toNatClampNeg) (σ.1 z33 (((6 : Int32) * (σ.1 a0 18)) + l2).toNatClampNeg) σ).bind fun v36 =>
cL (v30 + v36) fun v37 =>
cR (σ.2.2 a0 36) (okr kM NM 101) fun z38 =>
cG (inb (σ.1 a0 18) (kM z38).2) <|
cL (σ.1 z38 (σ.1 a0 18).toNatClampNeg) fun v40 =>
cR (σ.2.2 a0 37) (okr kM NM 101) fun z41 =>
cG (inb (σ.1 a0 18) (kM z41).2) <|
cL (σ.1 z41 (σ.1 a0 18).toNatClampNeg) fun v43 =>
if v40 = v43 then (
some (((10 : Int32) - v37, σ))) else (
cR (σ.2.2 a0 49) (okr kM NM 101) fun z44 =>
cG (inb (0 : Int32) (kM z44).2) <|
cL (uI σ z44 (0 : Int32).toNatClampNeg v37) fun σ46 =>
cR (σ46.2.2 a0 49) (okr kM NM 101) fun z47 =>
(F_X12_weatherOn a0 (0 : Int32) l3 σ46).bind fun v49 =>
cG (inb (1 : Int32) (kM z47).2) <|
cL (uI σ46 z47 (1 : Int32).toNatClampNeg v49) fun σ51 =>
cR (σ51.2.2 a0 49) (okr kM NM 101) fun z52 =>
(F_X12_weatherOn a0 (1 : Int32) l3 σ51).bind fun v54 =>
cG (inb (2 : Int32) (kM z52).2) <|
cL (uI σ51 z52 (2 : Int32).toNatClampNeg v54) fun σ56 =>
cR (σ56.2.2 a0 49) (okr kM NM 101) fun z57 =>
cG (inb (3 : Int32) (kM z57).2) <|
cL (uI σ56 z57 (3 : Int32).toNatClampNeg l3) fun σ59 =>
cR (σ59.2.2 a0 49) (okr kM NM 101) fun z60 =>
cG (inb (4 : Int32) (kM z60).2) <|
cL (uI σ59 z60 (4 : Int32).toNatClampNeg l1) fun σ62 =>
cR (σ62.2.2 a0 49) (okr kM NM 101) fun z63 =>
cG (inb (5 : Int32) (kM z63).2) <|
cL (uI σ62 z63 (5 : Int32).toNatClampNeg l2) fun σ65 =>
cL (uI σ65 a0 51 (0 : Int32)) fun σ66 =>
F_X12_tellsOf_162 a0 v43 v40 σ66)
section
variable {p : Program} {l : Launch} {e : Env} {s : State} {m : MethodId} {args : Array Value} {below : List Frame} {meth : Method} {c : Code} {D : va_G} {ay : Nat → ClassId} {ad : Nat → Nat}
set_option maxRecDepth 100000 in
set_option maxHeartbeats 4000000 in
theorem B_X12_tellsOf_271 {H : Heap} {locs : List Loc} {ls : Array Slot} {r0 : Int32} {σ0 : hSt} (s0 : Int32) (σ : hSt) (G : Gx p m c cX12_tellsOf 10 s args RX12 D ay NM ad (aN NM ad)) (hm : meth.sig.returnType = (some .int) ∧ meth.locks = false)  (hf : F_X12_tellsOf_271 s0 σ = some (r0, σ0))  (w : Wd D ay kM NM ad (aN NM ad) s σ H locs) (hl : lv_has ls 10 []) : W p l e (rmK 1 27) s m args below meth c H locs 0 0 (MQ below (cI D ay kM NM ad r0 σ0) args s 0 0 (aN NM ad)) (F0 m 271 ls [.int s0]) := by
  unfold F_X12_tellsOf_271 at hf
  have e9 := Option.some.inj hf
  exact r_iret G w hm (congrArg Prod.fst e9) (congrArg Prod.snd e9) (dcs_get dec_X12_tellsOf_3 36 rfl)
set_option maxRecDepth 100000 in
set_option maxHeartbeats 4000000 in
theorem B_X12_tellsOf_238 {H : Heap} {locs : List Loc} {ls : Array Slot} {r0 : Int32} {σ0 : hSt} (a0 : Nat) (l7 : Int32) (σ : hSt) (G : Gx p m c cX12_tellsOf 10 s args RX12 D ay NM ad (aN NM ad)) (hm : meth.sig.returnType = (some .int) ∧ meth.locks = false) (ok_a0 : okr kM NM 12 a0 = true) (hf : F_X12_tellsOf_238 a0 l7 σ = some (r0, σ0))  (w : Wd D ay kM NM ad (aN NM ad) s σ H locs) (hl : lv_has ls 10 [(0, .ref (ad a0)), (7, .int l7)]) : W p l e (rmK 1 27) s m args below meth c H locs 0 0 (MQ below (cI D ay kM NM ad r0 σ0) args s 0 0 (aN NM ad)) (F0 m 238 ls []) := by
  have k_a0 := okr_in ok_a0
  unfold F_X12_tellsOf_238 at hf
  refine lv_aload_n G.hx G.hb (dcs_get dec_X12_tellsOf_3 19 rfl) rfl (lv_at hl 0 rfl) ?_
  refine lv_aload_n G.hx G.hb (dcs_get dec_X12_tellsOf_3 20 rfl) rfl (lv_at hl 0 rfl) ?_
  obtain ⟨z1, e_z1, ok_z1, hf⟩ := cR_some hf
  have k_z1 := okr_in ok_z1
  refine r_getr (k := 42) cls12 fi_12_42.1 fi_12_42.2 q_1050 G w k_a0.1 k_a0.2 e_z1 (dcs_get dec_X12_tellsOf_3 21 rfl) ?_
  refine lv_iload G.hx G.hb (dcs_get dec_X12_tellsOf_3 22 rfl) (lv_at hl 1 rfl) ?_
  obtain ⟨h2, hf⟩ := cG_some hf
  refine r_iald G w k_z1.1 k_z1.2 h2 (dcs_get dec_X12_tellsOf_3 23 rfl) ?_
  refine lv_aload_n G.hx G.hb (dcs_get dec_X12_tellsOf_3 24 rfl) rfl (lv_at hl 0 rfl) ?_
  obtain ⟨z3, e_z3, ok_z3, hf⟩ := cR_some hf
  have k_z3 := okr_in ok_z3
  refine r_getr (k := 43) cls12 fi_12_43.1 fi_12_43.2 q_1051 G w k_a0.1 k_a0.2 e_z3 (dcs_get dec_X12_tellsOf_3 25 rfl) ?_
  refine lv_iload G.hx G.hb (dcs_get dec_X12_tellsOf_3 26 rfl) (lv_at hl 1 rfl) ?_
  obtain ⟨h4, hf⟩ := cG_some hf
  refine r_iald G w k_z3.1 k_z3.2 h4 (dcs_get dec_X12_tellsOf_3 27 rfl) ?_
  obtain ⟨v6, σ7, h5, hf⟩ := cC_some hf
  refine a_i (k_V (As := [.int (σ.1 z1 l7.toNatClampNeg), .int (σ.1 z3 l7.toNatClampNeg)]) (rest := []) cls12 lb_X12_termOf lv_X12_termOf q_1368 (C_X12_termOf G.2.2.1 a0 (σ.1 z1 l7.toNatClampNeg) (σ.1 z3 l7.toNatClampNeg) σ h5 ok_a0) ⟨(Nat.le_of_ble_eq_true rfl), (Nat.le_of_ble_eq_true rfl)⟩ G w k_a0.1 k_a0.2 rfl rfl hl.1 (Nat.le_of_ble_eq_true rfl) (dcs_get dec_X12_tellsOf_3 28 rfl) ⟨Nat.le_refl _, Nat.le_refl _⟩) G w (fun H locs w => ?_)
  refine lv_istore (lv' := [(8, .int v6), (0, .ref (ad a0)), (7, .int l7)]) G.hx G.hb (dcs_get dec_X12_tellsOf_3 29 rfl) hl (by decide) rfl (fun ls hl => ?_)
  refine lv_aload_n G.hx G.hb (dcs_get dec_X12_tellsOf_3 30 rfl) rfl (lv_at hl 1 rfl) ?_
  refine r_geti (k := 51) cls12 fi_12_51.1 fi_12_51.2 q_1059 G w k_a0.1 k_a0.2 (dcs_get dec_X12_tellsOf_3 31 rfl) ?_
  refine lv_if_eq (tgt := 269) G.hx G.hb (dcs_get dec_X12_tellsOf_3 32 rfl) (by decide) (fun hc => ?_) (fun hc => ?_)
  · rw [if_pos hc] at hf
    refine lv_iload G.hx G.hb (dcs_get dec_X12_tellsOf_3 35 rfl) (lv_at hl 0 rfl) ?_
    exact B_X12_tellsOf_271 v6 σ7 G hm  hf  w (lv_sub hl [] rfl)
  · rw [if_neg hc] at hf
    refine lv_iconst (v := (0 : Int32)) G.hx G.hb (dcs_get dec_X12_tellsOf_3 33 rfl) (by decide) ?_
    refine lv_goto (tgt := 271) G.hx G.hb (dcs_get dec_X12_tellsOf_3 34 rfl) (by decide) ?_
    exact B_X12_tellsOf_271 (0 : Int32) σ7 G hm  hf  w (lv_sub hl [] rfl)
set_option maxRecDepth 100000 in
set_option maxHeartbeats 4000000 in
theorem B_X12_tellsOf_162b {H : Heap} {locs : List Loc} {ls : Array Slot} {r0 : Int32} {σ0 : hSt} {o : (Int32 × hSt) ⊕ (Int32 × hSt)} (a0 : Nat) (l6 : Int32) (l7 : Int32) (σ : hSt) (G : Gx p m c cX12_tellsOf 10 s args RX12 D ay NM ad (aN NM ad)) (hm : meth.sig.returnType = (some .int) ∧ meth.locks = false) (ok_a0 : okr kM NM 12 a0 = true) (hf : F_X12_tellsOf_162b a0 l6 l7 σ = some o) (hb0 : ∀ (v : Int32 × hSt), o = .inl v → ∀ (H : Heap) (locs : List Loc) (ls : Array Slot), Wd D ay kM NM ad (aN NM ad) s v.2 H locs → lv_has ls 10 [(0, .ref (ad a0)), (6, .int l6), (7, .int v.1)] → W p l e (rmK 1 27) s m args below meth c H locs 0 0 (MQ below (cI D ay kM NM ad r0 σ0) args s 0 0 (aN NM ad)) (F0 m 162 ls [])) (hr : ∀ x, o = .inr (x) → x = (r0, σ0)) (w : Wd D ay kM NM ad (aN NM ad) s σ H locs) (hl : lv_has ls 10 [(0, .ref (ad a0)), (6, .int l6), (7, .int l7)]) : W p l e (rmK 1 27) s m args below meth c H locs 0 0 (MQ below (cI D ay kM NM ad r0 σ0) args s 0 0 (aN NM ad)) (F0 m 162 ls []) := by
  have k_a0 := okr_in ok_a0
  unfold F_X12_tellsOf_162b at hf
  refine lv_iload G.hx G.hb (dcs_get dec_X12_tellsOf_2 20 rfl) (lv_at hl 2 rfl) ?_
  refine lv_iload G.hx G.hb (dcs_get dec_X12_tellsOf_2 21 rfl) (lv_at hl 1 rfl) ?_
  refine lv_icmp_ge (tgt := 278) G.hx G.hb (dcs_get dec_X12_tellsOf_2 22 rfl) (by decide) (fun hc => ?_) (fun hc => ?_)
  · rw [if_pos hc] at hf
    refine lv_iconst (v := (0 : Int32)) G.hx G.hb (dcs_get dec_X12_tellsOf_3 39 rfl) (by decide) ?_
    have e9 := hr _ (Option.some.inj hf).symm
    exact r_iret G w hm (congrArg Prod.fst e9) (congrArg Prod.snd e9) (dcs_get dec_X12_tellsOf_4 0 rfl)
  · rw [if_neg hc] at hf
    refine lv_aload_n G.hx G.hb (dcs_get dec_X12_tellsOf_2 23 rfl) rfl (lv_at hl 0 rfl) ?_
    obtain ⟨z8, e_z8, ok_z8, hf⟩ := cR_some hf
    have k_z8 := okr_in ok_z8
    refine r_getr (k := 39) cls12 fi_12_39.1 fi_12_39.2 q_1047 G w k_a0.1 k_a0.2 e_z8 (dcs_get dec_X12_tellsOf_2 24 rfl) ?_
    refine lv_iload G.hx G.hb (dcs_get dec_X12_tellsOf_2 25 rfl) (lv_at hl 2 rfl) ?_
    obtain ⟨h9, hf⟩ := cG_some hf
    refine r_zald G w k_z8.1 k_z8.2 h9 (dcs_get dec_X12_tellsOf_2 26 rfl) ?_
    refine lv_if_eq (tgt := 238) G.hx G.hb (dcs_get dec_X12_tellsOf_2 27 rfl) (by decide) (fun hc => ?_) (fun hc => ?_)
    · rw [if_pos hc] at hf
      obtain ⟨x9, h9, e9⟩ := map_some_inv hf
      subst e9
      have e8 := hr _ rfl
      rw [e8] at h9
      exact B_X12_tellsOf_238 a0 l7 σ G hm ok_a0 h9 w (lv_sub hl [0, 2] rfl)
    · rw [if_neg hc] at hf
      refine lv_aload_n G.hx G.hb (dcs_get dec_X12_tellsOf_2 28 rfl) rfl (lv_at hl 0 rfl) ?_
      refine lv_aload_n G.hx G.hb (dcs_get dec_X12_tellsOf_2 29 rfl) rfl (lv_at hl 0 rfl) ?_
      obtain ⟨z10, e_z10, ok_z10, hf⟩ := cR_some hf
      have k_z10 := okr_in ok_z10
      refine r_getr (k := 40) cls12 fi_12_40.1 fi_12_40.2 q_1048 G w k_a0.1 k_a0.2 e_z10 (dcs_get dec_X12_tellsOf_2 30 rfl) ?_
      refine lv_iload G.hx G.hb (dcs_get dec_X12_tellsOf_2 31 rfl) (lv_at hl 2 rfl) ?_
      obtain ⟨h11, hf⟩ := cG_some hf
      refine r_iald G w k_z10.1 k_z10.2 h11 (dcs_get dec_X12_tellsOf_2 32 rfl) ?_
      refine lv_aload_n G.hx G.hb (dcs_get dec_X12_tellsOf_2 33 rfl) rfl (lv_at hl 0 rfl) ?_
      obtain ⟨z12, e_z12, ok_z12, hf⟩ := cR_some hf
      have k_z12 := okr_in ok_z12
      refine r_getr (k := 41) cls12 fi_12_41.1 fi_12_41.2 q_1049 G w k_a0.1 k_a0.2 e_z12 (dcs_get dec_X12_tellsOf_2 34 rfl) ?_
      refine lv_iload G.hx G.hb (dcs_get dec_X12_tellsOf_2 35 rfl) (lv_at hl 2 rfl) ?_
      obtain ⟨h13, hf⟩ := cG_some hf
      refine r_iald G w k_z12.1 k_z12.2 h13 (dcs_get dec_X12_tellsOf_2 36 rfl) ?_
      obtain ⟨v15, σ16, h14, hf⟩ := cC_some hf
      refine a_i (k_V (As := [.int (σ.1 z10 l7.toNatClampNeg), .int (σ.1 z12 l7.toNatClampNeg)]) (rest := []) cls12 lb_X12_termOf lv_X12_termOf q_1368 (C_X12_termOf G.2.2.1 a0 (σ.1 z10 l7.toNatClampNeg) (σ.1 z12 l7.toNatClampNeg) σ h14 ok_a0) ⟨(Nat.le_of_ble_eq_true rfl), (Nat.le_of_ble_eq_true rfl)⟩ G w k_a0.1 k_a0.2 rfl rfl hl.1 (Nat.le_of_ble_eq_true rfl) (dcs_get dec_X12_tellsOf_2 37 rfl) ⟨Nat.le_refl _, Nat.le_refl _⟩) G w (fun H locs w => ?_)
      refine lv_istore (lv' := [(8, .int v15), (0, .ref (ad a0)), (6, .int l6), (7, .int l7)]) G.hx G.hb (dcs_get dec_X12_tellsOf_2 38 rfl) hl (by decide) rfl (fun ls hl => ?_)
      refine lv_aload_n G.hx G.hb (dcs_get dec_X12_tellsOf_2 39 rfl) rfl (lv_at hl 1 rfl) ?_
      refine lv_aload_n G.hx G.hb (dcs_get dec_X12_tellsOf_3 0 rfl) rfl (lv_at hl 1 rfl) ?_
      obtain ⟨z17, e_z17, ok_z17, hf⟩ := cR_some hf
      have k_z17 := okr_in ok_z17
      refine r_getr (k := 41) cls12 fi_12_41.1 fi_12_41.2 q_1049 G w k_a0.1 k_a0.2 e_z17 (dcs_get dec_X12_tellsOf_3 1 rfl) ?_
      refine lv_iload G.hx G.hb (dcs_get dec_X12_tellsOf_3 2 rfl) (lv_at hl 3 rfl) ?_
      obtain ⟨h18, hf⟩ := cG_some hf
      refine r_iald G w k_z17.1 k_z17.2 h18 (dcs_get dec_X12_tellsOf_3 3 rfl) ?_
      refine lv_aload_n G.hx G.hb (dcs_get dec_X12_tellsOf_3 4 rfl) rfl (lv_at hl 1 rfl) ?_
      obtain ⟨z19, e_z19, ok_z19, hf⟩ := cR_some hf
      have k_z19 := okr_in ok_z19
      refine r_getr (k := 42) cls12 fi_12_42.1 fi_12_42.2 q_1050 G w k_a0.1 k_a0.2 e_z19 (dcs_get dec_X12_tellsOf_3 5 rfl) ?_
      refine lv_iload G.hx G.hb (dcs_get dec_X12_tellsOf_3 6 rfl) (lv_at hl 3 rfl) ?_
      obtain ⟨h20, hf⟩ := cG_some hf
      refine r_iald G w k_z19.1 k_z19.2 h20 (dcs_get dec_X12_tellsOf_3 7 rfl) ?_
      obtain ⟨v22, σ23, h21, hf⟩ := cC_some hf
      refine a_i (k_V (As := [.int (σ16.1 z17 l7.toNatClampNeg), .int (σ16.1 z19 l7.toNatClampNeg)]) (rest := []) cls12 lb_X12_termOf lv_X12_termOf q_1368 (C_X12_termOf G.2.2.1 a0 (σ16.1 z17 l7.toNatClampNeg) (σ16.1 z19 l7.toNatClampNeg) σ16 h21 ok_a0) ⟨(Nat.le_of_ble_eq_true rfl), (Nat.le_of_ble_eq_true rfl)⟩ G w k_a0.1 k_a0.2 rfl rfl hl.1 (Nat.le_of_ble_eq_true rfl) (dcs_get dec_X12_tellsOf_3 8 rfl) ⟨Nat.le_refl _, Nat.le_refl _⟩) G w (fun H locs w => ?_)
      refine lv_istore (lv' := [(9, .int v22), (8, .int v15), (0, .ref (ad a0)), (6, .int l6), (7, .int l7)]) G.hx G.hb (dcs_get dec_X12_tellsOf_3 9 rfl) hl (by decide) rfl (fun ls hl => ?_)
      refine lv_aload_n G.hx G.hb (dcs_get dec_X12_tellsOf_3 10 rfl) rfl (lv_at hl 2 rfl) ?_
      refine r_geti (k := 51) cls12 fi_12_51.1 fi_12_51.2 q_1059 G w k_a0.1 k_a0.2 (dcs_get dec_X12_tellsOf_3 11 rfl) ?_
      refine lv_if_eq (tgt := 228) G.hx G.hb (dcs_get dec_X12_tellsOf_3 12 rfl) (by decide) (fun hc => ?_) (fun hc => ?_)
      · rw [if_pos hc] at hf
        refine lv_iload G.hx G.hb (dcs_get dec_X12_tellsOf_3 15 rfl) (lv_at hl 1 rfl) ?_
        refine lv_iload G.hx G.hb (dcs_get dec_X12_tellsOf_3 16 rfl) (lv_at hl 0 rfl) ?_
        refine lv_icmp_lt (tgt := 238) G.hx G.hb (dcs_get dec_X12_tellsOf_3 17 rfl) (by decide) (fun hc => ?_) (fun hc => ?_)
        · rw [if_pos hc] at hf
          obtain ⟨x9, h9, e9⟩ := map_some_inv hf
          subst e9
          have e8 := hr _ rfl
          rw [e8] at h9
          exact B_X12_tellsOf_238 a0 l7 σ23 G hm ok_a0 h9 w (lv_sub hl [2, 4] rfl)
        · rw [if_neg hc] at hf
          refine lv_goto (tgt := 272) G.hx G.hb (dcs_get dec_X12_tellsOf_3 18 rfl) (by decide) ?_
          obtain ⟨v24, e_v24, hf⟩ := cL_some hf
          refine lv_iinc (v := v24) (lv' := [(7, .int v24), (9, .int v22), (8, .int v15), (0, .ref (ad a0)), (6, .int l6)]) G.hx G.hb (dcs_get dec_X12_tellsOf_3 37 rfl) hl (k := 4) rfl (by rw [e_v24]; rfl) (by decide) rfl (fun ls hl => ?_)
          refine lv_goto (tgt := 162) G.hx G.hb (dcs_get dec_X12_tellsOf_3 38 rfl) (by decide) ?_
          exact hb0 _ (Option.some.inj hf).symm _ _ _ w (lv_sub hl [3, 4, 0] rfl)
      · rw [if_neg hc] at hf
        refine lv_iconst (v := (0 : Int32)) G.hx G.hb (dcs_get dec_X12_tellsOf_3 13 rfl) (by decide) ?_
        have e9 := hr _ (Option.some.inj hf).symm
        exact r_iret G w hm (congrArg Prod.fst e9) (congrArg Prod.snd e9) (dcs_get dec_X12_tellsOf_3 14 rfl)
set_option maxRecDepth 100000 in
set_option maxHeartbeats 4000000 in
theorem H_X12_tellsOf_162 {r0 : Int32} {σ0 : hSt} (a0 : Nat) (l6 : Int32) (G : Gx p m c cX12_tellsOf 10 s args RX12 D ay NM ad (aN NM ad)) (hm : meth.sig.returnType = (some .int) ∧ meth.locks = false) (ok_a0 : okr kM NM 12 a0 = true)  : ∀ (k : Nat) (v : Int32 × hSt), lp (S_X12_tellsOf_162 a0 l6) k v = some (r0, σ0) → ∀ (H : Heap) (locs : List Loc) (ls : Array Slot), Wd D ay kM NM ad (aN NM ad) s v.2 H locs → lv_has ls 10 [(0, .ref (ad a0)), (6, .int l6), (7, .int v.1)] → W p l e (rmK 1 27) s m args below meth c H locs 0 0 (MQ below (cI D ay kM NM ad r0 σ0) args s 0 0 (aN NM ad)) (F0 m 162 ls []) := by
  intro k
  induction k with
  | zero => intro v hf; cases hf
  | succ k ih =>
    intro v hf H locs ls w hl
    obtain ⟨o1, h1, h2, h3⟩ := lp_some hf
    exact B_X12_tellsOf_162b a0 l6 v.1 v.2 G hm ok_a0 h1  (fun v' e => ih v' (h2 v' e)) (fun x e => h3 x e) w hl
set_option maxRecDepth 100000 in
set_option maxHeartbeats 4000000 in
theorem B_X12_tellsOf_162 {H : Heap} {locs : List Loc} {ls : Array Slot} {r0 : Int32} {σ0 : hSt} (a0 : Nat) (l6 : Int32) (l7 : Int32) (σ : hSt) (G : Gx p m c cX12_tellsOf 10 s args RX12 D ay NM ad (aN NM ad)) (hm : meth.sig.returnType = (some .int) ∧ meth.locks = false) (ok_a0 : okr kM NM 12 a0 = true) (hf : F_X12_tellsOf_162 a0 l6 l7 σ = some (r0, σ0))  (w : Wd D ay kM NM ad (aN NM ad) s σ H locs) (hl : lv_has ls 10 [(0, .ref (ad a0)), (6, .int l6), (7, .int l7)]) : W p l e (rmK 1 27) s m args below meth c H locs 0 0 (MQ below (cI D ay kM NM ad r0 σ0) args s 0 0 (aN NM ad)) (F0 m 162 ls []) := by
  unfold F_X12_tellsOf_162 at hf
  exact H_X12_tellsOf_162 a0 l6  G hm ok_a0  fuel (l7, σ) hf _ _ _ w hl
set_option maxRecDepth 100000 in
set_option maxHeartbeats 4000000 in
theorem B_X12_tellsOf_0 {H : Heap} {locs : List Loc} {ls : Array Slot} {r0 : Int32} {σ0 : hSt} (a0 : Nat) (l1 : Int32) (l2 : Int32) (l3 : Int32) (σ : hSt) (G : Gx p m c cX12_tellsOf 10 s args RX12 D ay NM ad (aN NM ad)) (hm : meth.sig.returnType = (some .int) ∧ meth.locks = false) (ok_a0 : okr kM NM 12 a0 = true) (hf : F_X12_tellsOf a0 l1 l2 l3 σ = some (r0, σ0))  (w : Wd D ay kM NM ad (aN NM ad) s σ H locs) (hl : lv_has ls 10 [(0, .ref (ad a0)), (1, .int l1), (2, .int l2), (3, .int l3)]) : W p l e (rmK 1 27) s m args below meth c H locs 0 0 (MQ below (cI D ay kM NM ad r0 σ0) args s 0 0 (aN NM ad)) (F0 m 0 ls []) := by
  have k_a0 := okr_in ok_a0
  unfold F_X12_tellsOf at hf
  refine lv_aload_n G.hx G.hb (dcs_get dec_X12_tellsOf_0 0 rfl) rfl (lv_at hl 0 rfl) ?_
  obtain ⟨z25, e_z25, ok_z25, hf⟩ := cR_some hf
  have k_z25 := okr_in ok_z25
  refine r_getr (k := 25) cls12 fi_12_25.1 fi_12_25.2 q_1033 G w k_a0.1 k_a0.2 e_z25 (dcs_get dec_X12_tellsOf_0 1 rfl) ?_
  refine lv_bipush (v := (6 : Int32)) G.hx G.hb (dcs_get dec_X12_tellsOf_0 2 rfl) (by decide) ?_
  refine lv_aload_n G.hx G.hb (dcs_get dec_X12_tellsOf_0 3 rfl) rfl (lv_at hl 0 rfl) ?_
  refine r_geti (k := 18) cls12 fi_12_18.1 fi_12_18.2 q_1026 G w k_a0.1 k_a0.2 (dcs_get dec_X12_tellsOf_0 4 rfl) ?_
  refine lv_imul G.hx G.hb (dcs_get dec_X12_tellsOf_0 5 rfl) ?_
  refine lv_iload_n G.hx G.hb (dcs_get dec_X12_tellsOf_0 6 rfl) rfl (lv_at hl 1 rfl) ?_
  refine lv_iadd G.hx G.hb (dcs_get dec_X12_tellsOf_0 7 rfl) ?_
  obtain ⟨h26, hf⟩ := cG_some hf
  refine r_iald G w k_z25.1 k_z25.2 h26 (dcs_get dec_X12_tellsOf_0 8 rfl) ?_
  refine lv_aload_n G.hx G.hb (dcs_get dec_X12_tellsOf_0 9 rfl) rfl (lv_at hl 0 rfl) ?_
  obtain ⟨z27, e_z27, ok_z27, hf⟩ := cR_some hf
  have k_z27 := okr_in ok_z27
  refine r_getr (k := 25) cls12 fi_12_25.1 fi_12_25.2 q_1033 G w k_a0.1 k_a0.2 e_z27 (dcs_get dec_X12_tellsOf_0 10 rfl) ?_
  refine lv_bipush (v := (6 : Int32)) G.hx G.hb (dcs_get dec_X12_tellsOf_0 11 rfl) (by decide) ?_
  refine lv_aload_n G.hx G.hb (dcs_get dec_X12_tellsOf_0 12 rfl) rfl (lv_at hl 0 rfl) ?_
  refine r_geti (k := 18) cls12 fi_12_18.1 fi_12_18.2 q_1026 G w k_a0.1 k_a0.2 (dcs_get dec_X12_tellsOf_0 13 rfl) ?_
  refine lv_imul G.hx G.hb (dcs_get dec_X12_tellsOf_0 14 rfl) ?_
  refine lv_iload_n G.hx G.hb (dcs_get dec_X12_tellsOf_0 15 rfl) rfl (lv_at hl 2 rfl) ?_
  refine lv_iadd G.hx G.hb (dcs_get dec_X12_tellsOf_0 16 rfl) ?_
  obtain ⟨h28, hf⟩ := cG_some hf
  refine r_iald G w k_z27.1 k_z27.2 h28 (dcs_get dec_X12_tellsOf_0 17 rfl) ?_
  obtain ⟨v30, h29, hf⟩ := cB_some hf
  refine a_i (k_S (As := [.int (σ.1 z25 (((6 : Int32) * (σ.1 a0 18)) + l1).toNatClampNeg), .int (σ.1 z27 (((6 : Int32) * (σ.1 a0 18)) + l2).toNatClampNeg)]) (rest := []) lb_X12_apart q_1362 q_1361 (C_X12_apart G.2.2.1 (σ.1 z25 (((6 : Int32) * (σ.1 a0 18)) + l1).toNatClampNeg) (σ.1 z27 (((6 : Int32) * (σ.1 a0 18)) + l2).toNatClampNeg) σ h29 ) ⟨(Nat.le_of_ble_eq_true rfl), (Nat.le_of_ble_eq_true rfl)⟩ G w rfl rfl hl.1 (Nat.le_of_ble_eq_true rfl) (dcs_get dec_X12_tellsOf_0 18 rfl) ⟨Nat.le_refl _, Nat.le_refl _⟩) G w (fun H locs w => ?_)
  refine lv_aload_n G.hx G.hb (dcs_get dec_X12_tellsOf_0 19 rfl) rfl (lv_at hl 0 rfl) ?_
  obtain ⟨z31, e_z31, ok_z31, hf⟩ := cR_some hf
  have k_z31 := okr_in ok_z31
  refine r_getr (k := 26) cls12 fi_12_26.1 fi_12_26.2 q_1034 G w k_a0.1 k_a0.2 e_z31 (dcs_get dec_X12_tellsOf_0 20 rfl) ?_
  refine lv_bipush (v := (6 : Int32)) G.hx G.hb (dcs_get dec_X12_tellsOf_0 21 rfl) (by decide) ?_
  refine lv_aload_n G.hx G.hb (dcs_get dec_X12_tellsOf_0 22 rfl) rfl (lv_at hl 0 rfl) ?_
  refine r_geti (k := 18) cls12 fi_12_18.1 fi_12_18.2 q_1026 G w k_a0.1 k_a0.2 (dcs_get dec_X12_tellsOf_0 23 rfl) ?_
  refine lv_imul G.hx G.hb (dcs_get dec_X12_tellsOf_0 24 rfl) ?_
  refine lv_iload_n G.hx G.hb (dcs_get dec_X12_tellsOf_0 25 rfl) rfl (lv_at hl 1 rfl) ?_
  refine lv_iadd G.hx G.hb (dcs_get dec_X12_tellsOf_0 26 rfl) ?_
  obtain ⟨h32, hf⟩ := cG_some hf
  refine r_iald G w k_z31.1 k_z31.2 h32 (dcs_get dec_X12_tellsOf_0 27 rfl) ?_
  refine lv_aload_n G.hx G.hb (dcs_get dec_X12_tellsOf_0 28 rfl) rfl (lv_at hl 0 rfl) ?_
  obtain ⟨z33, e_z33, ok_z33, hf⟩ := cR_some hf
  have k_z33 := okr_in ok_z33
  refine r_getr (k := 26) cls12 fi_12_26.1 fi_12_26.2 q_1034 G w k_a0.1 k_a0.2 e_z33 (dcs_get dec_X12_tellsOf_0 29 rfl) ?_
  refine lv_bipush (v := (6 : Int32)) G.hx G.hb (dcs_get dec_X12_tellsOf_0 30 rfl) (by decide) ?_
  refine lv_aload_n G.hx G.hb (dcs_get dec_X12_tellsOf_0 31 rfl) rfl (lv_at hl 0 rfl) ?_
  refine r_geti (k := 18) cls12 fi_12_18.1 fi_12_18.2 q_1026 G w k_a0.1 k_a0.2 (dcs_get dec_X12_tellsOf_0 32 rfl) ?_
  refine lv_imul G.hx G.hb (dcs_get dec_X12_tellsOf_0 33 rfl) ?_
  refine lv_iload_n G.hx G.hb (dcs_get dec_X12_tellsOf_0 34 rfl) rfl (lv_at hl 2 rfl) ?_
  refine lv_iadd G.hx G.hb (dcs_get dec_X12_tellsOf_0 35 rfl) ?_
  obtain ⟨h34, hf⟩ := cG_some hf
  refine r_iald G w k_z33.1 k_z33.2 h34 (dcs_get dec_X12_tellsOf_0 36 rfl) ?_
  obtain ⟨v36, h35, hf⟩ := cB_some hf
  refine a_i (k_S (As := [.int (σ.1 z31 (((6 : Int32) * (σ.1 a0 18)) + l1).toNatClampNeg), .int (σ.1 z33 (((6 : Int32) * (σ.1 a0 18)) + l2).toNatClampNeg)]) (rest := [.int v30]) lb_X12_apart q_1362 q_1361 (C_X12_apart G.2.2.1 (σ.1 z31 (((6 : Int32) * (σ.1 a0 18)) + l1).toNatClampNeg) (σ.1 z33 (((6 : Int32) * (σ.1 a0 18)) + l2).toNatClampNeg) σ h35 ) ⟨(Nat.le_of_ble_eq_true rfl), (Nat.le_of_ble_eq_true rfl)⟩ G w rfl rfl hl.1 (Nat.le_of_ble_eq_true rfl) (dcs_get dec_X12_tellsOf_0 37 rfl) ⟨Nat.le_refl _, Nat.le_refl _⟩) G w (fun H locs w => ?_)
  refine lv_iadd G.hx G.hb (dcs_get dec_X12_tellsOf_0 38 rfl) ?_
  obtain ⟨v37, e_v37, hf⟩ := cL_some hf
  refine r_topi e_v37 ?_
  refine lv_istore (lv' := [(4, .int v37), (0, .ref (ad a0)), (1, .int l1), (2, .int l2), (3, .int l3)]) G.hx G.hb (dcs_get dec_X12_tellsOf_0 39 rfl) hl (by decide) rfl (fun ls hl => ?_)
  refine lv_aload_n G.hx G.hb (dcs_get dec_X12_tellsOf_1 0 rfl) rfl (lv_at hl 1 rfl) ?_
  obtain ⟨z38, e_z38, ok_z38, hf⟩ := cR_some hf
  have k_z38 := okr_in ok_z38
  refine r_getr (k := 36) cls12 fi_12_36.1 fi_12_36.2 q_1044 G w k_a0.1 k_a0.2 e_z38 (dcs_get dec_X12_tellsOf_1 1 rfl) ?_
  refine lv_aload_n G.hx G.hb (dcs_get dec_X12_tellsOf_1 2 rfl) rfl (lv_at hl 1 rfl) ?_
  refine r_geti (k := 18) cls12 fi_12_18.1 fi_12_18.2 q_1026 G w k_a0.1 k_a0.2 (dcs_get dec_X12_tellsOf_1 3 rfl) ?_
  obtain ⟨h39, hf⟩ := cG_some hf
  refine r_iald G w k_z38.1 k_z38.2 h39 (dcs_get dec_X12_tellsOf_1 4 rfl) ?_
  obtain ⟨v40, e_v40, hf⟩ := cL_some hf
  refine r_topi e_v40 ?_
  refine lv_istore (lv' := [(5, .int v40), (4, .int v37), (0, .ref (ad a0)), (1, .int l1), (2, .int l2), (3, .int l3)]) G.hx G.hb (dcs_get dec_X12_tellsOf_1 5 rfl) hl (by decide) rfl (fun ls hl => ?_)
  refine lv_aload_n G.hx G.hb (dcs_get dec_X12_tellsOf_1 6 rfl) rfl (lv_at hl 2 rfl) ?_
  obtain ⟨z41, e_z41, ok_z41, hf⟩ := cR_some hf
  have k_z41 := okr_in ok_z41
  refine r_getr (k := 37) cls12 fi_12_37.1 fi_12_37.2 q_1045 G w k_a0.1 k_a0.2 e_z41 (dcs_get dec_X12_tellsOf_1 7 rfl) ?_
  refine lv_aload_n G.hx G.hb (dcs_get dec_X12_tellsOf_1 8 rfl) rfl (lv_at hl 2 rfl) ?_
  refine r_geti (k := 18) cls12 fi_12_18.1 fi_12_18.2 q_1026 G w k_a0.1 k_a0.2 (dcs_get dec_X12_tellsOf_1 9 rfl) ?_
  obtain ⟨h42, hf⟩ := cG_some hf
  refine r_iald G w k_z41.1 k_z41.2 h42 (dcs_get dec_X12_tellsOf_1 10 rfl) ?_
  obtain ⟨v43, e_v43, hf⟩ := cL_some hf
  refine r_topi e_v43 ?_
  refine lv_istore (lv' := [(6, .int v43), (5, .int v40), (4, .int v37), (0, .ref (ad a0)), (1, .int l1), (2, .int l2), (3, .int l3)]) G.hx G.hb (dcs_get dec_X12_tellsOf_1 11 rfl) hl (by decide) rfl (fun ls hl => ?_)
  refine lv_iload G.hx G.hb (dcs_get dec_X12_tellsOf_1 12 rfl) (lv_at hl 1 rfl) ?_
  refine lv_iload G.hx G.hb (dcs_get dec_X12_tellsOf_1 13 rfl) (lv_at hl 0 rfl) ?_
  refine lv_icmp_ne (tgt := 100) G.hx G.hb (dcs_get dec_X12_tellsOf_1 14 rfl) (by decide) (fun hc => ?_) (fun hc => ?_)
  · rw [if_neg hc] at hf
    refine lv_aload_n G.hx G.hb (dcs_get dec_X12_tellsOf_1 19 rfl) rfl (lv_at hl 3 rfl) ?_
    obtain ⟨z44, e_z44, ok_z44, hf⟩ := cR_some hf
    have k_z44 := okr_in ok_z44
    refine r_getr (k := 49) cls12 fi_12_49.1 fi_12_49.2 q_1057 G w k_a0.1 k_a0.2 e_z44 (dcs_get dec_X12_tellsOf_1 20 rfl) ?_
    refine lv_iconst (v := (0 : Int32)) G.hx G.hb (dcs_get dec_X12_tellsOf_1 21 rfl) (by decide) ?_
    refine lv_iload G.hx G.hb (dcs_get dec_X12_tellsOf_1 22 rfl) (lv_at hl 2 rfl) ?_
    obtain ⟨h45, hf⟩ := cG_some hf
    obtain ⟨σ46, e_σ46, hf⟩ := cL_some hf
    refine r_iast G w k_z44.1 k_z44.2 h45 (dcs_get dec_X12_tellsOf_1 23 rfl) (fun H locs w => ?_)
    have w := Wd.nm e_σ46 w
    refine lv_aload_n G.hx G.hb (dcs_get dec_X12_tellsOf_1 24 rfl) rfl (lv_at hl 3 rfl) ?_
    obtain ⟨z47, e_z47, ok_z47, hf⟩ := cR_some hf
    have k_z47 := okr_in ok_z47
    refine r_getr (k := 49) cls12 fi_12_49.1 fi_12_49.2 q_1057 G w k_a0.1 k_a0.2 e_z47 (dcs_get dec_X12_tellsOf_1 25 rfl) ?_
    refine lv_iconst (v := (1 : Int32)) G.hx G.hb (dcs_get dec_X12_tellsOf_1 26 rfl) (by decide) ?_
    refine lv_aload_n G.hx G.hb (dcs_get dec_X12_tellsOf_1 27 rfl) rfl (lv_at hl 3 rfl) ?_
    refine lv_iconst (v := (0 : Int32)) G.hx G.hb (dcs_get dec_X12_tellsOf_1 28 rfl) (by decide) ?_
    refine lv_iload_n G.hx G.hb (dcs_get dec_X12_tellsOf_1 29 rfl) rfl (lv_at hl 6 rfl) ?_
    obtain ⟨v49, h48, hf⟩ := cB_some hf
    refine a_i (k_V (As := [.int (0 : Int32), .int l3]) (rest := [.int (1 : Int32), .ref (ad z47)]) cls12 lb_X12_weatherOn lv_X12_weatherOn q_1364 (C_X12_weatherOn G.2.2.1 a0 (0 : Int32) l3 σ46 h48 ok_a0) ⟨(Nat.le_of_ble_eq_true rfl), (Nat.le_of_ble_eq_true rfl)⟩ G w k_a0.1 k_a0.2 rfl rfl hl.1 (Nat.le_of_ble_eq_true rfl) (dcs_get dec_X12_tellsOf_1 30 rfl) ⟨Nat.le_refl _, Nat.le_refl _⟩) G w (fun H locs w => ?_)
    obtain ⟨h50, hf⟩ := cG_some hf
    obtain ⟨σ51, e_σ51, hf⟩ := cL_some hf
    refine r_iast G w k_z47.1 k_z47.2 h50 (dcs_get dec_X12_tellsOf_1 31 rfl) (fun H locs w => ?_)
    have w := Wd.nm e_σ51 w
    refine lv_aload_n G.hx G.hb (dcs_get dec_X12_tellsOf_1 32 rfl) rfl (lv_at hl 3 rfl) ?_
    obtain ⟨z52, e_z52, ok_z52, hf⟩ := cR_some hf
    have k_z52 := okr_in ok_z52
    refine r_getr (k := 49) cls12 fi_12_49.1 fi_12_49.2 q_1057 G w k_a0.1 k_a0.2 e_z52 (dcs_get dec_X12_tellsOf_1 33 rfl) ?_
    refine lv_iconst (v := (2 : Int32)) G.hx G.hb (dcs_get dec_X12_tellsOf_1 34 rfl) (by decide) ?_
    refine lv_aload_n G.hx G.hb (dcs_get dec_X12_tellsOf_1 35 rfl) rfl (lv_at hl 3 rfl) ?_
    refine lv_iconst (v := (1 : Int32)) G.hx G.hb (dcs_get dec_X12_tellsOf_1 36 rfl) (by decide) ?_
    refine lv_iload_n G.hx G.hb (dcs_get dec_X12_tellsOf_1 37 rfl) rfl (lv_at hl 6 rfl) ?_
    obtain ⟨v54, h53, hf⟩ := cB_some hf
    refine a_i (k_V (As := [.int (1 : Int32), .int l3]) (rest := [.int (2 : Int32), .ref (ad z52)]) cls12 lb_X12_weatherOn lv_X12_weatherOn q_1364 (C_X12_weatherOn G.2.2.1 a0 (1 : Int32) l3 σ51 h53 ok_a0) ⟨(Nat.le_of_ble_eq_true rfl), (Nat.le_of_ble_eq_true rfl)⟩ G w k_a0.1 k_a0.2 rfl rfl hl.1 (Nat.le_of_ble_eq_true rfl) (dcs_get dec_X12_tellsOf_1 38 rfl) ⟨Nat.le_refl _, Nat.le_refl _⟩) G w (fun H locs w => ?_)
    obtain ⟨h55, hf⟩ := cG_some hf
    obtain ⟨σ56, e_σ56, hf⟩ := cL_some hf
    refine r_iast G w k_z52.1 k_z52.2 h55 (dcs_get dec_X12_tellsOf_1 39 rfl) (fun H locs w => ?_)
    have w := Wd.nm e_σ56 w
    refine lv_aload_n G.hx G.hb (dcs_get dec_X12_tellsOf_2 0 rfl) rfl (lv_at hl 3 rfl) ?_
    obtain ⟨z57, e_z57, ok_z57, hf⟩ := cR_some hf
    have k_z57 := okr_in ok_z57
    refine r_getr (k := 49) cls12 fi_12_49.1 fi_12_49.2 q_1057 G w k_a0.1 k_a0.2 e_z57 (dcs_get dec_X12_tellsOf_2 1 rfl) ?_
    refine lv_iconst (v := (3 : Int32)) G.hx G.hb (dcs_get dec_X12_tellsOf_2 2 rfl) (by decide) ?_
    refine lv_iload_n G.hx G.hb (dcs_get dec_X12_tellsOf_2 3 rfl) rfl (lv_at hl 6 rfl) ?_
    obtain ⟨h58, hf⟩ := cG_some hf
    obtain ⟨σ59, e_σ59, hf⟩ := cL_some hf
    refine r_iast G w k_z57.1 k_z57.2 h58 (dcs_get dec_X12_tellsOf_2 4 rfl) (fun H locs w => ?_)
    have w := Wd.nm e_σ59 w
    refine lv_aload_n G.hx G.hb (dcs_get dec_X12_tellsOf_2 5 rfl) rfl (lv_at hl 3 rfl) ?_
    obtain ⟨z60, e_z60, ok_z60, hf⟩ := cR_some hf
    have k_z60 := okr_in ok_z60
    refine r_getr (k := 49) cls12 fi_12_49.1 fi_12_49.2 q_1057 G w k_a0.1 k_a0.2 e_z60 (dcs_get dec_X12_tellsOf_2 6 rfl) ?_
    refine lv_iconst (v := (4 : Int32)) G.hx G.hb (dcs_get dec_X12_tellsOf_2 7 rfl) (by decide) ?_
    refine lv_iload_n G.hx G.hb (dcs_get dec_X12_tellsOf_2 8 rfl) rfl (lv_at hl 4 rfl) ?_
    obtain ⟨h61, hf⟩ := cG_some hf
    obtain ⟨σ62, e_σ62, hf⟩ := cL_some hf
    refine r_iast G w k_z60.1 k_z60.2 h61 (dcs_get dec_X12_tellsOf_2 9 rfl) (fun H locs w => ?_)
    have w := Wd.nm e_σ62 w
    refine lv_aload_n G.hx G.hb (dcs_get dec_X12_tellsOf_2 10 rfl) rfl (lv_at hl 3 rfl) ?_
    obtain ⟨z63, e_z63, ok_z63, hf⟩ := cR_some hf
    have k_z63 := okr_in ok_z63
    refine r_getr (k := 49) cls12 fi_12_49.1 fi_12_49.2 q_1057 G w k_a0.1 k_a0.2 e_z63 (dcs_get dec_X12_tellsOf_2 11 rfl) ?_
    refine lv_iconst (v := (5 : Int32)) G.hx G.hb (dcs_get dec_X12_tellsOf_2 12 rfl) (by decide) ?_
    refine lv_iload_n G.hx G.hb (dcs_get dec_X12_tellsOf_2 13 rfl) rfl (lv_at hl 5 rfl) ?_
    obtain ⟨h64, hf⟩ := cG_some hf
    obtain ⟨σ65, e_σ65, hf⟩ := cL_some hf
    refine r_iast G w k_z63.1 k_z63.2 h64 (dcs_get dec_X12_tellsOf_2 14 rfl) (fun H locs w => ?_)
    have w := Wd.nm e_σ65 w
    refine lv_aload_n G.hx G.hb (dcs_get dec_X12_tellsOf_2 15 rfl) rfl (lv_at hl 3 rfl) ?_
    refine lv_iconst (v := (0 : Int32)) G.hx G.hb (dcs_get dec_X12_tellsOf_2 16 rfl) (by decide) ?_
    obtain ⟨σ66, e_σ66, hf⟩ := cL_some hf
    refine r_puti (k := 51) cls12 ct12 fi_12_51.1 fi_12_51.2 fp_12_51.1 fp_12_51.2 q_1059 rfl rfl G w k_a0.1 k_a0.2 (dcs_get dec_X12_tellsOf_2 17 rfl) (fun H locs w => ?_)
    have w := Wd.nm e_σ66 w
    refine lv_iload G.hx G.hb (dcs_get dec_X12_tellsOf_2 18 rfl) (lv_at hl 1 rfl) ?_
    refine lv_istore (lv' := [(7, .int v40), (6, .int v43), (5, .int v40), (4, .int v37), (0, .ref (ad a0)), (1, .int l1), (2, .int l2), (3, .int l3)]) G.hx G.hb (dcs_get dec_X12_tellsOf_2 19 rfl) hl (by decide) rfl (fun ls hl => ?_)
    exact B_X12_tellsOf_162 a0 v43 v40 σ66 G hm ok_a0 hf  w (lv_sub hl [4, 1, 0] rfl)
  · rw [if_pos hc] at hf
    refine lv_bipush (v := (10 : Int32)) G.hx G.hb (dcs_get dec_X12_tellsOf_1 15 rfl) (by decide) ?_
    refine lv_iload G.hx G.hb (dcs_get dec_X12_tellsOf_1 16 rfl) (lv_at hl 2 rfl) ?_
    refine lv_isub G.hx G.hb (dcs_get dec_X12_tellsOf_1 17 rfl) ?_
    have e9 := Option.some.inj hf
    exact r_iret G w hm (congrArg Prod.fst e9) (congrArg Prod.snd e9) (dcs_get dec_X12_tellsOf_1 18 rfl)
end
set_option maxRecDepth 100000 in
set_option maxHeartbeats 4000000 in
theorem C_X12_tellsOf {l : Launch} {D : va_G} {ay : Nat → ClassId} {ad : Nat → Nat} (hi : hInj NM ad) (a0 : Nat) (l1 : Int32) (l2 : Int32) (l3 : Int32) (σ : hSt) {r0 : Int32} {σ0 : hSt} (hf : F_X12_tellsOf a0 l1 l2 l3 σ = some (r0, σ0)) (ok_a0 : okr kM NM 12 a0 = true) : hM l D ay kM NM ad yX12_tellsOf cX12_tellsOf 10 ((some .int)) (rmK 1 27) [.ref (ad a0), .int l1, .int l2, .int l3] σ (cI D ay kM NM ad r0 σ0) := by
  refine hM_in (by decide) hi (Nat.le_of_ble_eq_true rfl) ?_
  intro p e s m below meth c G hm w ls hl
  exact B_X12_tellsOf_0 a0 l1 l2 l3 σ G hm ok_a0 hf w (lv_sub hl [0, 1, 2, 3] rfl)

/-! HillDrumsModel.isHeardBy(III)Z -/
def DL_X12_isHeardBy_0 : List (Nat × Instr × Nat) := [(0, .iload_n 1, 1), (1, .iload_n 2, 1), (2, .if_icmp .eq 13, 3), (5, .aload_n 0, 1), (6, .iload_n 1, 1), (7, .iload_n 2, 1), (8, .iload_n 3, 1), (9, .invokevirtual 336, 3), (12, .ifCond .le 7, 3), (15, .iconst 1, 1), (16, .goto 4, 3), (19, .iconst 0, 1), (20, .ireturn, 1)]
set_option maxRecDepth 100000 in
theorem dec_X12_isHeardBy_0 : dcs cX12_isHeardBy DL_X12_isHeardBy_0 = true := by decide +kernel
theorem lb_X12_isHeardBy : lkB yX12_isHeardBy cX12_isHeardBy 4 ((some .boolean)) 3 := ⟨q_1356, q_14, ⟨by decide, by decide⟩, by decide +kernel⟩
theorem lv_X12_isHeardBy : lkV yX12_isHeardBy := ⟨q_1355, qs_94⟩
def F_X12_isHeardBy_20 (s0 : Int32) (σ : hSt) : Option (Int32 × hSt) :=
cG (isB s0) <|
some ((s0, σ))
def F_X12_isHeardBy_15  (σ : hSt) : Option (Int32 × hSt) :=
F_X12_isHeardBy_20 (1 : Int32) σ
def F_X12_isHeardBy (a0 : Nat) (l1 : Int32) (l2 : Int32) (l3 : Int32) (σ : hSt) : Option (Int32 × hSt) :=
if l1 = l2 then (
F_X12_isHeardBy_15  σ) else (
cC (F_X12_tellsOf a0 l1 l2 l3 σ) fun v3 σ4 =>
if v3 ≤ 0 then (
F_X12_isHeardBy_20 (0 : Int32) σ4) else (
F_X12_isHeardBy_15  σ4))
section
variable {p : Program} {l : Launch} {e : Env} {s : State} {m : MethodId} {args : Array Value} {below : List Frame} {meth : Method} {c : Code} {D : va_G} {ay : Nat → ClassId} {ad : Nat → Nat}
set_option maxRecDepth 100000 in
set_option maxHeartbeats 4000000 in
theorem B_X12_isHeardBy_20 {H : Heap} {locs : List Loc} {ls : Array Slot} {r0 : Int32} {σ0 : hSt} (s0 : Int32) (σ : hSt) (G : Gx p m c cX12_isHeardBy 4 s args RX12 D ay NM ad (aN NM ad)) (hm : meth.sig.returnType = (some .boolean) ∧ meth.locks = false)  (hf : F_X12_isHeardBy_20 s0 σ = some (r0, σ0))  (w : Wd D ay kM NM ad (aN NM ad) s σ H locs) (hl : lv_has ls 4 []) : W p l e (rmK 2 56) s m args below meth c H locs 0 0 (MQ below (cI D ay kM NM ad r0 σ0) args s 0 0 (aN NM ad)) (F0 m 20 ls [.int s0]) := by
  unfold F_X12_isHeardBy_20 at hf
  obtain ⟨h1, hf⟩ := cG_some hf
  have e9 := Option.some.inj hf
  exact r_zret (isB_nar h1) G w hm (congrArg Prod.fst e9) (congrArg Prod.snd e9) (dcs_get dec_X12_isHeardBy_0 12 rfl)
set_option maxRecDepth 100000 in
set_option maxHeartbeats 4000000 in
theorem B_X12_isHeardBy_15 {H : Heap} {locs : List Loc} {ls : Array Slot} {r0 : Int32} {σ0 : hSt}  (σ : hSt) (G : Gx p m c cX12_isHeardBy 4 s args RX12 D ay NM ad (aN NM ad)) (hm : meth.sig.returnType = (some .boolean) ∧ meth.locks = false)  (hf : F_X12_isHeardBy_15  σ = some (r0, σ0))  (w : Wd D ay kM NM ad (aN NM ad) s σ H locs) (hl : lv_has ls 4 []) : W p l e (rmK 2 56) s m args below meth c H locs 0 0 (MQ below (cI D ay kM NM ad r0 σ0) args s 0 0 (aN NM ad)) (F0 m 15 ls []) := by
  unfold F_X12_isHeardBy_15 at hf
  refine lv_iconst (v := (1 : Int32)) G.hx G.hb (dcs_get dec_X12_isHeardBy_0 9 rfl) (by decide) ?_
  refine lv_goto (tgt := 20) G.hx G.hb (dcs_get dec_X12_isHeardBy_0 10 rfl) (by decide) ?_
  exact B_X12_isHeardBy_20 (1 : Int32) σ G hm  hf  w (lv_sub hl [] rfl)
set_option maxRecDepth 100000 in
set_option maxHeartbeats 4000000 in
theorem B_X12_isHeardBy_0 {H : Heap} {locs : List Loc} {ls : Array Slot} {r0 : Int32} {σ0 : hSt} (a0 : Nat) (l1 : Int32) (l2 : Int32) (l3 : Int32) (σ : hSt) (G : Gx p m c cX12_isHeardBy 4 s args RX12 D ay NM ad (aN NM ad)) (hm : meth.sig.returnType = (some .boolean) ∧ meth.locks = false) (ok_a0 : okr kM NM 12 a0 = true) (hf : F_X12_isHeardBy a0 l1 l2 l3 σ = some (r0, σ0))  (w : Wd D ay kM NM ad (aN NM ad) s σ H locs) (hl : lv_has ls 4 [(0, .ref (ad a0)), (1, .int l1), (2, .int l2), (3, .int l3)]) : W p l e (rmK 2 56) s m args below meth c H locs 0 0 (MQ below (cI D ay kM NM ad r0 σ0) args s 0 0 (aN NM ad)) (F0 m 0 ls []) := by
  have k_a0 := okr_in ok_a0
  unfold F_X12_isHeardBy at hf
  refine lv_iload_n G.hx G.hb (dcs_get dec_X12_isHeardBy_0 0 rfl) rfl (lv_at hl 1 rfl) ?_
  refine lv_iload_n G.hx G.hb (dcs_get dec_X12_isHeardBy_0 1 rfl) rfl (lv_at hl 2 rfl) ?_
  refine lv_icmp_eq (tgt := 15) G.hx G.hb (dcs_get dec_X12_isHeardBy_0 2 rfl) (by decide) (fun hc => ?_) (fun hc => ?_)
  · rw [if_pos hc] at hf
    exact B_X12_isHeardBy_15  σ G hm  hf  w (lv_sub hl [] rfl)
  · rw [if_neg hc] at hf
    refine lv_aload_n G.hx G.hb (dcs_get dec_X12_isHeardBy_0 3 rfl) rfl (lv_at hl 0 rfl) ?_
    refine lv_iload_n G.hx G.hb (dcs_get dec_X12_isHeardBy_0 4 rfl) rfl (lv_at hl 1 rfl) ?_
    refine lv_iload_n G.hx G.hb (dcs_get dec_X12_isHeardBy_0 5 rfl) rfl (lv_at hl 2 rfl) ?_
    refine lv_iload_n G.hx G.hb (dcs_get dec_X12_isHeardBy_0 6 rfl) rfl (lv_at hl 3 rfl) ?_
    obtain ⟨v3, σ4, h2, hf⟩ := cC_some hf
    refine a_i (k_V (As := [.int l1, .int l2, .int l3]) (rest := []) cls12 lb_X12_tellsOf lv_X12_tellsOf q_1357 (C_X12_tellsOf G.2.2.1 a0 l1 l2 l3 σ h2 ok_a0) ⟨(Nat.le_of_ble_eq_true rfl), (Nat.le_of_ble_eq_true rfl)⟩ G w k_a0.1 k_a0.2 rfl rfl hl.1 (Nat.le_of_ble_eq_true rfl) (dcs_get dec_X12_isHeardBy_0 7 rfl) ⟨Nat.le_refl _, Nat.le_refl _⟩) G w (fun H locs w => ?_)
    refine lv_if_le (tgt := 19) G.hx G.hb (dcs_get dec_X12_isHeardBy_0 8 rfl) (by decide) (fun hc => ?_) (fun hc => ?_)
    · rw [if_pos hc] at hf
      refine lv_iconst (v := (0 : Int32)) G.hx G.hb (dcs_get dec_X12_isHeardBy_0 11 rfl) (by decide) ?_
      exact B_X12_isHeardBy_20 (0 : Int32) σ4 G hm  hf  w (lv_sub hl [] rfl)
    · rw [if_neg hc] at hf
      exact B_X12_isHeardBy_15  σ4 G hm  hf  w (lv_sub hl [] rfl)
end
set_option maxRecDepth 100000 in
set_option maxHeartbeats 4000000 in
theorem C_X12_isHeardBy {l : Launch} {D : va_G} {ay : Nat → ClassId} {ad : Nat → Nat} (hi : hInj NM ad) (a0 : Nat) (l1 : Int32) (l2 : Int32) (l3 : Int32) (σ : hSt) {r0 : Int32} {σ0 : hSt} (hf : F_X12_isHeardBy a0 l1 l2 l3 σ = some (r0, σ0)) (ok_a0 : okr kM NM 12 a0 = true) : hM l D ay kM NM ad yX12_isHeardBy cX12_isHeardBy 4 ((some .boolean)) (rmK 2 56) [.ref (ad a0), .int l1, .int l2, .int l3] σ (cI D ay kM NM ad r0 σ0) := by
  refine hM_in (by decide) hi (Nat.le_of_ble_eq_true rfl) ?_
  intro p e s m below meth c G hm w ls hl
  exact B_X12_isHeardBy_0 a0 l1 l2 l3 σ G hm ok_a0 hf w (lv_sub hl [0, 1, 2, 3] rfl)

/-! HillDrumsModel.fillsHearers(I)V -/
def DL_X12_fillsHearers_0 : List (Nat × Instr × Nat) := [(0, .iconst 0, 1), (1, .istore_n 2, 1), (2, .iload_n 2, 1), (3, .aload_n 0, 1), (4, .getfield 49, 3), (7, .aload_n 0, 1), (8, .getfield 236, 3), (11, .iaload, 1), (12, .if_icmp .ge 59, 3), (15, .aload_n 0, 1), (16, .getfield 122, 3), (19, .iload_n 2, 1), (20, .iconst 0, 1), (21, .iastore, 1), (22, .iconst 0, 1), (23, .istore_n 3, 1), (24, .iload_n 3, 1), (25, .aload_n 0, 1), (26, .getfield 49, 3), (29, .aload_n 0, 1), (30, .getfield 236, 3), (33, .iaload, 1), (34, .if_icmp .ge 31, 3), (37, .aload_n 0, 1), (38, .iload_n 2, 1), (39, .iload_n 3, 1), (40, .iload_n 1, 1), (41, .invokevirtual 339, 3), (44, .ifCond .eq 15, 3), (47, .aload_n 0, 1), (48, .getfield 122, 3), (51, .iload_n 2, 1), (52, .dup2, 1), (53, .iaload, 1), (54, .iconst 1, 1), (55, .iload_n 3, 1), (56, .ishl, 1), (57, .ior, 1), (58, .iastore, 1), (59, .iinc 3 1, 3)]
set_option maxRecDepth 100000 in
theorem dec_X12_fillsHearers_0 : dcs cX12_fillsHearers DL_X12_fillsHearers_0 = true := by decide +kernel
def DL_X12_fillsHearers_1 : List (Nat × Instr × Nat) := [(62, .goto (-38), 3), (65, .iinc 2 1, 3), (68, .goto (-66), 3), (71, .return_, 1)]
set_option maxRecDepth 100000 in
theorem dec_X12_fillsHearers_1 : dcs cX12_fillsHearers DL_X12_fillsHearers_1 = true := by decide +kernel
theorem lb_X12_fillsHearers : lkB yX12_fillsHearers cX12_fillsHearers 4 (none) 1 := ⟨q_1403, q_14, ⟨by decide, by decide⟩, by decide +kernel⟩
theorem lv_X12_fillsHearers : lkV yX12_fillsHearers := ⟨q_1402, qs_103⟩
def F_X12_fillsHearers_59 (a0 : Nat) (l1 : Int32) (l2 : Int32) (l3 : Int32) (σ : hSt) : Option ((Int32 × hSt) ⊕ ((Int32 × hSt) ⊕ (hSt))) :=
cL (l3 + (1 : Int32)) fun v1 =>
some (.inl (v1, σ))
def F_X12_fillsHearers_24b (a0 : Nat) (l1 : Int32) (l2 : Int32) (l3 : Int32) (σ : hSt) : Option ((Int32 × hSt) ⊕ ((Int32 × hSt) ⊕ (hSt))) :=
cR (σ.2.2 a0 24) (okr kM NM 101) fun z2 =>
cG (inb (σ.1 a0 18) (kM z2).2) <|
if (σ.1 z2 (σ.1 a0 18).toNatClampNeg) ≤ l3 then (
cL (l2 + (1 : Int32)) fun v4 =>
some (.inr (.inl (v4, σ)))) else (
cC (F_X12_isHeardBy a0 l2 l3 l1 σ) fun v6 σ7 =>
if v6 = 0 then (
F_X12_fillsHearers_59 a0 l1 l2 l3 σ7) else (
cR (σ7.2.2 a0 52) (okr kM NM 101) fun z8 =>
cG (inb l2 (kM z8).2) <|
cG (inb l2 (kM z8).2) <|
cL (uI σ7 z8 l2.toNatClampNeg ((σ7.1 z8 l2.toNatClampNeg) ||| ((1 : Int32) <<< (l3 &&& 31)))) fun σ11 =>
F_X12_fillsHearers_59 a0 l1 l2 l3 σ11))
def S_X12_fillsHearers_24 (a0 : Nat) (l1 : Int32) (l2 : Int32) (v : Int32 × hSt) : Option ((Int32 × hSt) ⊕ ((Int32 × hSt) ⊕ (hSt))) := F_X12_fillsHearers_24b a0 l1 l2 v.1 v.2
def F_X12_fillsHearers_24 (a0 : Nat) (l1 : Int32) (l2 : Int32) (l3 : Int32) (σ : hSt) : Option ((Int32 × hSt) ⊕ (hSt)) := lp (S_X12_fillsHearers_24 a0 l1 l2) fuel (l3, σ)
def F_X12_fillsHearers_2b (a0 : Nat) (l1 : Int32) (l2 : Int32) (σ : hSt) : Option ((Int32 × hSt) ⊕ (hSt)) :=
cR (σ.2.2 a0 24) (okr kM NM 101) fun z12 =>
cG (inb (σ.1 a0 18) (kM z12).2) <|
if (σ.1 z12 (σ.1 a0 18).toNatClampNeg) ≤ l2 then (
some (.inr (σ))) else (
cR (σ.2.2 a0 52) (okr kM NM 101) fun z14 =>
cG (inb l2 (kM z14).2) <|
cL (uI σ z14 l2.toNatClampNeg (0 : Int32)) fun σ16 =>
F_X12_fillsHearers_24 a0 l1 l2 (0 : Int32) σ16)
def S_X12_fillsHearers_2 (a0 : Nat) (l1 : Int32) (v : Int32 × hSt) : Option ((Int32 × hSt) ⊕ (hSt)) := F_X12_fillsHearers_2b a0 l1 v.1 v.2
def F_X12_fillsHearers_2 (a0 : Nat) (l1 : Int32) (l2 : Int32) (σ : hSt) : Option (hSt) := lp (S_X12_fillsHearers_2 a0 l1) fuel (l2, σ)
def F_X12_fillsHearers (a0 : Nat) (l1 : Int32) (σ : hSt) : Option (hSt) :=
F_X12_fillsHearers_2 a0 l1 (0 : Int32) σ
section
variable {p : Program} {l : Launch} {e : Env} {s : State} {m : MethodId} {args : Array Value} {below : List Frame} {meth : Method} {c : Code} {D : va_G} {ay : Nat → ClassId} {ad : Nat → Nat}
set_option maxRecDepth 100000 in
set_option maxHeartbeats 4000000 in
theorem B_X12_fillsHearers_59 {H : Heap} {locs : List Loc} {ls : Array Slot} {σ0 : hSt} {o : (Int32 × hSt) ⊕ ((Int32 × hSt) ⊕ (hSt))} (a0 : Nat) (l1 : Int32) (l2 : Int32) (l3 : Int32) (σ : hSt) (G : Gx p m c cX12_fillsHearers 4 s args RX12 D ay NM ad (aN NM ad)) (hm : meth.sig.returnType = none ∧ meth.locks = false) (ok_a0 : okr kM NM 12 a0 = true) (hf : F_X12_fillsHearers_59 a0 l1 l2 l3 σ = some o) (hb0 : ∀ (v : Int32 × hSt), o = .inr (.inl v) → ∀ (H : Heap) (locs : List Loc) (ls : Array Slot), Wd D ay kM NM ad (aN NM ad) s v.2 H locs → lv_has ls 4 [(0, .ref (ad a0)), (1, .int l1), (2, .int v.1)] → W p l e (rmK 3 79) s m args below meth c H locs 0 0 (MQ below (cV D ay kM NM ad σ0) args s 0 0 (aN NM ad)) (F0 m 2 ls [])) (hb1 : ∀ (v : Int32 × hSt), o = .inl v → ∀ (H : Heap) (locs : List Loc) (ls : Array Slot), Wd D ay kM NM ad (aN NM ad) s v.2 H locs → lv_has ls 4 [(0, .ref (ad a0)), (1, .int l1), (2, .int l2), (3, .int v.1)] → W p l e (rmK 3 79) s m args below meth c H locs 0 0 (MQ below (cV D ay kM NM ad σ0) args s 0 0 (aN NM ad)) (F0 m 24 ls [])) (hr : ∀ x, o = .inr (.inr (x)) → x = σ0) (w : Wd D ay kM NM ad (aN NM ad) s σ H locs) (hl : lv_has ls 4 [(0, .ref (ad a0)), (1, .int l1), (2, .int l2), (3, .int l3)]) : W p l e (rmK 3 79) s m args below meth c H locs 0 0 (MQ below (cV D ay kM NM ad σ0) args s 0 0 (aN NM ad)) (F0 m 59 ls []) := by
  have k_a0 := okr_in ok_a0
  unfold F_X12_fillsHearers_59 at hf
  obtain ⟨v1, e_v1, hf⟩ := cL_some hf
  refine lv_iinc (v := v1) (lv' := [(3, .int v1), (0, .ref (ad a0)), (1, .int l1), (2, .int l2)]) G.hx G.hb (dcs_get dec_X12_fillsHearers_0 39 rfl) hl (k := 3) rfl (by rw [e_v1]; rfl) (by decide) rfl (fun ls hl => ?_)
  refine lv_goto (tgt := 24) G.hx G.hb (dcs_get dec_X12_fillsHearers_1 0 rfl) (by decide) ?_
  exact hb1 _ (Option.some.inj hf).symm _ _ _ w (lv_sub hl [1, 2, 3, 0] rfl)
set_option maxRecDepth 100000 in
set_option maxHeartbeats 4000000 in
theorem B_X12_fillsHearers_24b {H : Heap} {locs : List Loc} {ls : Array Slot} {σ0 : hSt} {o : (Int32 × hSt) ⊕ ((Int32 × hSt) ⊕ (hSt))} (a0 : Nat) (l1 : Int32) (l2 : Int32) (l3 : Int32) (σ : hSt) (G : Gx p m c cX12_fillsHearers 4 s args RX12 D ay NM ad (aN NM ad)) (hm : meth.sig.returnType = none ∧ meth.locks = false) (ok_a0 : okr kM NM 12 a0 = true) (hf : F_X12_fillsHearers_24b a0 l1 l2 l3 σ = some o) (hb0 : ∀ (v : Int32 × hSt), o = .inr (.inl v) → ∀ (H : Heap) (locs : List Loc) (ls : Array Slot), Wd D ay kM NM ad (aN NM ad) s v.2 H locs → lv_has ls 4 [(0, .ref (ad a0)), (1, .int l1), (2, .int v.1)] → W p l e (rmK 3 79) s m args below meth c H locs 0 0 (MQ below (cV D ay kM NM ad σ0) args s 0 0 (aN NM ad)) (F0 m 2 ls [])) (hb1 : ∀ (v : Int32 × hSt), o = .inl v → ∀ (H : Heap) (locs : List Loc) (ls : Array Slot), Wd D ay kM NM ad (aN NM ad) s v.2 H locs → lv_has ls 4 [(0, .ref (ad a0)), (1, .int l1), (2, .int l2), (3, .int v.1)] → W p l e (rmK 3 79) s m args below meth c H locs 0 0 (MQ below (cV D ay kM NM ad σ0) args s 0 0 (aN NM ad)) (F0 m 24 ls [])) (hr : ∀ x, o = .inr (.inr (x)) → x = σ0) (w : Wd D ay kM NM ad (aN NM ad) s σ H locs) (hl : lv_has ls 4 [(0, .ref (ad a0)), (1, .int l1), (2, .int l2), (3, .int l3)]) : W p l e (rmK 3 79) s m args below meth c H locs 0 0 (MQ below (cV D ay kM NM ad σ0) args s 0 0 (aN NM ad)) (F0 m 24 ls []) := by
  have k_a0 := okr_in ok_a0
  unfold F_X12_fillsHearers_24b at hf
  refine lv_iload_n G.hx G.hb (dcs_get dec_X12_fillsHearers_0 16 rfl) rfl (lv_at hl 3 rfl) ?_
  refine lv_aload_n G.hx G.hb (dcs_get dec_X12_fillsHearers_0 17 rfl) rfl (lv_at hl 0 rfl) ?_
  obtain ⟨z2, e_z2, ok_z2, hf⟩ := cR_some hf
  have k_z2 := okr_in ok_z2
  refine r_getr (k := 24) cls12 fi_12_24.1 fi_12_24.2 q_1032 G w k_a0.1 k_a0.2 e_z2 (dcs_get dec_X12_fillsHearers_0 18 rfl) ?_
  refine lv_aload_n G.hx G.hb (dcs_get dec_X12_fillsHearers_0 19 rfl) rfl (lv_at hl 0 rfl) ?_
  refine r_geti (k := 18) cls12 fi_12_18.1 fi_12_18.2 q_1026 G w k_a0.1 k_a0.2 (dcs_get dec_X12_fillsHearers_0 20 rfl) ?_
  obtain ⟨h3, hf⟩ := cG_some hf
  refine r_iald G w k_z2.1 k_z2.2 h3 (dcs_get dec_X12_fillsHearers_0 21 rfl) ?_
  refine lv_icmp_ge (tgt := 65) G.hx G.hb (dcs_get dec_X12_fillsHearers_0 22 rfl) (by decide) (fun hc => ?_) (fun hc => ?_)
  · rw [if_pos hc] at hf
    obtain ⟨v4, e_v4, hf⟩ := cL_some hf
    refine lv_iinc (v := v4) (lv' := [(2, .int v4), (0, .ref (ad a0)), (1, .int l1), (3, .int l3)]) G.hx G.hb (dcs_get dec_X12_fillsHearers_1 1 rfl) hl (k := 2) rfl (by rw [e_v4]; rfl) (by decide) rfl (fun ls hl => ?_)
    refine lv_goto (tgt := 2) G.hx G.hb (dcs_get dec_X12_fillsHearers_1 2 rfl) (by decide) ?_
    exact hb0 _ (Option.some.inj hf).symm _ _ _ w (lv_sub hl [1, 2, 0] rfl)
  · rw [if_neg hc] at hf
    refine lv_aload_n G.hx G.hb (dcs_get dec_X12_fillsHearers_0 23 rfl) rfl (lv_at hl 0 rfl) ?_
    refine lv_iload_n G.hx G.hb (dcs_get dec_X12_fillsHearers_0 24 rfl) rfl (lv_at hl 2 rfl) ?_
    refine lv_iload_n G.hx G.hb (dcs_get dec_X12_fillsHearers_0 25 rfl) rfl (lv_at hl 3 rfl) ?_
    refine lv_iload_n G.hx G.hb (dcs_get dec_X12_fillsHearers_0 26 rfl) rfl (lv_at hl 1 rfl) ?_
    obtain ⟨v6, σ7, h5, hf⟩ := cC_some hf
    refine a_i (k_V (As := [.int l2, .int l3, .int l1]) (rest := []) cls12 lb_X12_isHeardBy lv_X12_isHeardBy q_1353 (C_X12_isHeardBy G.2.2.1 a0 l2 l3 l1 σ h5 ok_a0) ⟨(Nat.le_of_ble_eq_true rfl), (Nat.le_of_ble_eq_true rfl)⟩ G w k_a0.1 k_a0.2 rfl rfl hl.1 (Nat.le_of_ble_eq_true rfl) (dcs_get dec_X12_fillsHearers_0 27 rfl) ⟨Nat.le_refl _, Nat.le_refl _⟩) G w (fun H locs w => ?_)
    refine lv_if_eq (tgt := 59) G.hx G.hb (dcs_get dec_X12_fillsHearers_0 28 rfl) (by decide) (fun hc => ?_) (fun hc => ?_)
    · rw [if_pos hc] at hf
      exact B_X12_fillsHearers_59 a0 l1 l2 l3 σ7 G hm ok_a0 hf hb0 hb1 hr w (lv_sub hl [0, 1, 2, 3] rfl)
    · rw [if_neg hc] at hf
      refine lv_aload_n G.hx G.hb (dcs_get dec_X12_fillsHearers_0 29 rfl) rfl (lv_at hl 0 rfl) ?_
      obtain ⟨z8, e_z8, ok_z8, hf⟩ := cR_some hf
      have k_z8 := okr_in ok_z8
      refine r_getr (k := 52) cls12 fi_12_52.1 fi_12_52.2 q_1060 G w k_a0.1 k_a0.2 e_z8 (dcs_get dec_X12_fillsHearers_0 30 rfl) ?_
      refine lv_iload_n G.hx G.hb (dcs_get dec_X12_fillsHearers_0 31 rfl) rfl (lv_at hl 2 rfl) ?_
      refine lv_dup2_11 G.hx G.hb (dcs_get dec_X12_fillsHearers_0 32 rfl) rfl rfl ?_
      obtain ⟨h9, hf⟩ := cG_some hf
      refine r_iald G w k_z8.1 k_z8.2 h9 (dcs_get dec_X12_fillsHearers_0 33 rfl) ?_
      refine lv_iconst (v := (1 : Int32)) G.hx G.hb (dcs_get dec_X12_fillsHearers_0 34 rfl) (by decide) ?_
      refine lv_iload_n G.hx G.hb (dcs_get dec_X12_fillsHearers_0 35 rfl) rfl (lv_at hl 3 rfl) ?_
      refine lv_ishl G.hx G.hb (dcs_get dec_X12_fillsHearers_0 36 rfl) ?_
      refine lv_ior G.hx G.hb (dcs_get dec_X12_fillsHearers_0 37 rfl) ?_
      obtain ⟨h10, hf⟩ := cG_some hf
      obtain ⟨σ11, e_σ11, hf⟩ := cL_some hf
      refine r_iast G w k_z8.1 k_z8.2 h10 (dcs_get dec_X12_fillsHearers_0 38 rfl) (fun H locs w => ?_)
      have w := Wd.nm e_σ11 w
      exact B_X12_fillsHearers_59 a0 l1 l2 l3 σ11 G hm ok_a0 hf hb0 hb1 hr w (lv_sub hl [0, 1, 2, 3] rfl)
set_option maxRecDepth 100000 in
set_option maxHeartbeats 4000000 in
theorem H_X12_fillsHearers_24 {σ0 : hSt} {o : (Int32 × hSt) ⊕ (hSt)} (a0 : Nat) (l1 : Int32) (l2 : Int32) (G : Gx p m c cX12_fillsHearers 4 s args RX12 D ay NM ad (aN NM ad)) (hm : meth.sig.returnType = none ∧ meth.locks = false) (ok_a0 : okr kM NM 12 a0 = true) (hb0 : ∀ (v : Int32 × hSt), o = .inl v → ∀ (H : Heap) (locs : List Loc) (ls : Array Slot), Wd D ay kM NM ad (aN NM ad) s v.2 H locs → lv_has ls 4 [(0, .ref (ad a0)), (1, .int l1), (2, .int v.1)] → W p l e (rmK 3 79) s m args below meth c H locs 0 0 (MQ below (cV D ay kM NM ad σ0) args s 0 0 (aN NM ad)) (F0 m 2 ls [])) (hr : ∀ x, o = .inr (x) → x = σ0) : ∀ (k : Nat) (v : Int32 × hSt), lp (S_X12_fillsHearers_24 a0 l1 l2) k v = some o → ∀ (H : Heap) (locs : List Loc) (ls : Array Slot), Wd D ay kM NM ad (aN NM ad) s v.2 H locs → lv_has ls 4 [(0, .ref (ad a0)), (1, .int l1), (2, .int l2), (3, .int v.1)] → W p l e (rmK 3 79) s m args below meth c H locs 0 0 (MQ below (cV D ay kM NM ad σ0) args s 0 0 (aN NM ad)) (F0 m 24 ls []) := by
  intro k
  induction k with
  | zero => intro v hf; cases hf
  | succ k ih =>
    intro v hf H locs ls w hl
    obtain ⟨o1, h1, h2, h3⟩ := lp_some hf
    exact B_X12_fillsHearers_24b a0 l1 l2 v.1 v.2 G hm ok_a0 h1 (fun v' e => hb0 v' (h3 _ e).symm) (fun v' e => ih v' (h2 v' e)) (fun x e => hr x (h3 _ e).symm) w hl
set_option maxRecDepth 100000 in
set_option maxHeartbeats 4000000 in
theorem B_X12_fillsHearers_24 {H : Heap} {locs : List Loc} {ls : Array Slot} {σ0 : hSt} {o : (Int32 × hSt) ⊕ (hSt)} (a0 : Nat) (l1 : Int32) (l2 : Int32) (l3 : Int32) (σ : hSt) (G : Gx p m c cX12_fillsHearers 4 s args RX12 D ay NM ad (aN NM ad)) (hm : meth.sig.returnType = none ∧ meth.locks = false) (ok_a0 : okr kM NM 12 a0 = true) (hf : F_X12_fillsHearers_24 a0 l1 l2 l3 σ = some o) (hb0 : ∀ (v : Int32 × hSt), o = .inl v → ∀ (H : Heap) (locs : List Loc) (ls : Array Slot), Wd D ay kM NM ad (aN NM ad) s v.2 H locs → lv_has ls 4 [(0, .ref (ad a0)), (1, .int l1), (2, .int v.1)] → W p l e (rmK 3 79) s m args below meth c H locs 0 0 (MQ below (cV D ay kM NM ad σ0) args s 0 0 (aN NM ad)) (F0 m 2 ls [])) (hr : ∀ x, o = .inr (x) → x = σ0) (w : Wd D ay kM NM ad (aN NM ad) s σ H locs) (hl : lv_has ls 4 [(0, .ref (ad a0)), (1, .int l1), (2, .int l2), (3, .int l3)]) : W p l e (rmK 3 79) s m args below meth c H locs 0 0 (MQ below (cV D ay kM NM ad σ0) args s 0 0 (aN NM ad)) (F0 m 24 ls []) := by
  unfold F_X12_fillsHearers_24 at hf
  exact H_X12_fillsHearers_24 a0 l1 l2  G hm ok_a0 hb0 hr fuel (l3, σ) hf _ _ _ w hl
set_option maxRecDepth 100000 in
set_option maxHeartbeats 4000000 in
theorem B_X12_fillsHearers_2b {H : Heap} {locs : List Loc} {ls : Array Slot} {σ0 : hSt} {o : (Int32 × hSt) ⊕ (hSt)} (a0 : Nat) (l1 : Int32) (l2 : Int32) (σ : hSt) (G : Gx p m c cX12_fillsHearers 4 s args RX12 D ay NM ad (aN NM ad)) (hm : meth.sig.returnType = none ∧ meth.locks = false) (ok_a0 : okr kM NM 12 a0 = true) (hf : F_X12_fillsHearers_2b a0 l1 l2 σ = some o) (hb0 : ∀ (v : Int32 × hSt), o = .inl v → ∀ (H : Heap) (locs : List Loc) (ls : Array Slot), Wd D ay kM NM ad (aN NM ad) s v.2 H locs → lv_has ls 4 [(0, .ref (ad a0)), (1, .int l1), (2, .int v.1)] → W p l e (rmK 3 79) s m args below meth c H locs 0 0 (MQ below (cV D ay kM NM ad σ0) args s 0 0 (aN NM ad)) (F0 m 2 ls [])) (hr : ∀ x, o = .inr (x) → x = σ0) (w : Wd D ay kM NM ad (aN NM ad) s σ H locs) (hl : lv_has ls 4 [(0, .ref (ad a0)), (1, .int l1), (2, .int l2)]) : W p l e (rmK 3 79) s m args below meth c H locs 0 0 (MQ below (cV D ay kM NM ad σ0) args s 0 0 (aN NM ad)) (F0 m 2 ls []) := by
  have k_a0 := okr_in ok_a0
  unfold F_X12_fillsHearers_2b at hf
  refine lv_iload_n G.hx G.hb (dcs_get dec_X12_fillsHearers_0 2 rfl) rfl (lv_at hl 2 rfl) ?_
  refine lv_aload_n G.hx G.hb (dcs_get dec_X12_fillsHearers_0 3 rfl) rfl (lv_at hl 0 rfl) ?_
  obtain ⟨z12, e_z12, ok_z12, hf⟩ := cR_some hf
  have k_z12 := okr_in ok_z12
  refine r_getr (k := 24) cls12 fi_12_24.1 fi_12_24.2 q_1032 G w k_a0.1 k_a0.2 e_z12 (dcs_get dec_X12_fillsHearers_0 4 rfl) ?_
  refine lv_aload_n G.hx G.hb (dcs_get dec_X12_fillsHearers_0 5 rfl) rfl (lv_at hl 0 rfl) ?_
  refine r_geti (k := 18) cls12 fi_12_18.1 fi_12_18.2 q_1026 G w k_a0.1 k_a0.2 (dcs_get dec_X12_fillsHearers_0 6 rfl) ?_
  obtain ⟨h13, hf⟩ := cG_some hf
  refine r_iald G w k_z12.1 k_z12.2 h13 (dcs_get dec_X12_fillsHearers_0 7 rfl) ?_
  refine lv_icmp_ge (tgt := 71) G.hx G.hb (dcs_get dec_X12_fillsHearers_0 8 rfl) (by decide) (fun hc => ?_) (fun hc => ?_)
  · rw [if_pos hc] at hf
    have e9 := hr _ (Option.some.inj hf).symm
    exact r_vret G w hm e9 (dcs_get dec_X12_fillsHearers_1 3 rfl)
  · rw [if_neg hc] at hf
    refine lv_aload_n G.hx G.hb (dcs_get dec_X12_fillsHearers_0 9 rfl) rfl (lv_at hl 0 rfl) ?_
    obtain ⟨z14, e_z14, ok_z14, hf⟩ := cR_some hf
    have k_z14 := okr_in ok_z14
    refine r_getr (k := 52) cls12 fi_12_52.1 fi_12_52.2 q_1060 G w k_a0.1 k_a0.2 e_z14 (dcs_get dec_X12_fillsHearers_0 10 rfl) ?_
    refine lv_iload_n G.hx G.hb (dcs_get dec_X12_fillsHearers_0 11 rfl) rfl (lv_at hl 2 rfl) ?_
    refine lv_iconst (v := (0 : Int32)) G.hx G.hb (dcs_get dec_X12_fillsHearers_0 12 rfl) (by decide) ?_
    obtain ⟨h15, hf⟩ := cG_some hf
    obtain ⟨σ16, e_σ16, hf⟩ := cL_some hf
    refine r_iast G w k_z14.1 k_z14.2 h15 (dcs_get dec_X12_fillsHearers_0 13 rfl) (fun H locs w => ?_)
    have w := Wd.nm e_σ16 w
    refine lv_iconst (v := (0 : Int32)) G.hx G.hb (dcs_get dec_X12_fillsHearers_0 14 rfl) (by decide) ?_
    refine lv_istore_n (lv' := [(3, .int (0 : Int32)), (0, .ref (ad a0)), (1, .int l1), (2, .int l2)]) G.hx G.hb (dcs_get dec_X12_fillsHearers_0 15 rfl) rfl hl (by decide) rfl (fun ls hl => ?_)
    exact B_X12_fillsHearers_24 a0 l1 l2 (0 : Int32) σ16 G hm ok_a0 hf hb0 hr w (lv_sub hl [1, 2, 3, 0] rfl)
set_option maxRecDepth 100000 in
set_option maxHeartbeats 4000000 in
theorem H_X12_fillsHearers_2 {σ0 : hSt} (a0 : Nat) (l1 : Int32) (G : Gx p m c cX12_fillsHearers 4 s args RX12 D ay NM ad (aN NM ad)) (hm : meth.sig.returnType = none ∧ meth.locks = false) (ok_a0 : okr kM NM 12 a0 = true)  : ∀ (k : Nat) (v : Int32 × hSt), lp (S_X12_fillsHearers_2 a0 l1) k v = some σ0 → ∀ (H : Heap) (locs : List Loc) (ls : Array Slot), Wd D ay kM NM ad (aN NM ad) s v.2 H locs → lv_has ls 4 [(0, .ref (ad a0)), (1, .int l1), (2, .int v.1)] → W p l e (rmK 3 79) s m args below meth c H locs 0 0 (MQ below (cV D ay kM NM ad σ0) args s 0 0 (aN NM ad)) (F0 m 2 ls []) := by
  intro k
  induction k with
  | zero => intro v hf; cases hf
  | succ k ih =>
    intro v hf H locs ls w hl
    obtain ⟨o1, h1, h2, h3⟩ := lp_some hf
    exact B_X12_fillsHearers_2b a0 l1 v.1 v.2 G hm ok_a0 h1  (fun v' e => ih v' (h2 v' e)) (fun x e => h3 x e) w hl
set_option maxRecDepth 100000 in
set_option maxHeartbeats 4000000 in
theorem B_X12_fillsHearers_2 {H : Heap} {locs : List Loc} {ls : Array Slot} {σ0 : hSt} (a0 : Nat) (l1 : Int32) (l2 : Int32) (σ : hSt) (G : Gx p m c cX12_fillsHearers 4 s args RX12 D ay NM ad (aN NM ad)) (hm : meth.sig.returnType = none ∧ meth.locks = false) (ok_a0 : okr kM NM 12 a0 = true) (hf : F_X12_fillsHearers_2 a0 l1 l2 σ = some σ0)  (w : Wd D ay kM NM ad (aN NM ad) s σ H locs) (hl : lv_has ls 4 [(0, .ref (ad a0)), (1, .int l1), (2, .int l2)]) : W p l e (rmK 3 79) s m args below meth c H locs 0 0 (MQ below (cV D ay kM NM ad σ0) args s 0 0 (aN NM ad)) (F0 m 2 ls []) := by
  unfold F_X12_fillsHearers_2 at hf
  exact H_X12_fillsHearers_2 a0 l1  G hm ok_a0  fuel (l2, σ) hf _ _ _ w hl
set_option maxRecDepth 100000 in
set_option maxHeartbeats 4000000 in
theorem B_X12_fillsHearers_0 {H : Heap} {locs : List Loc} {ls : Array Slot} {σ0 : hSt} (a0 : Nat) (l1 : Int32) (σ : hSt) (G : Gx p m c cX12_fillsHearers 4 s args RX12 D ay NM ad (aN NM ad)) (hm : meth.sig.returnType = none ∧ meth.locks = false) (ok_a0 : okr kM NM 12 a0 = true) (hf : F_X12_fillsHearers a0 l1 σ = some σ0)  (w : Wd D ay kM NM ad (aN NM ad) s σ H locs) (hl : lv_has ls 4 [(0, .ref (ad a0)), (1, .int l1)]) : W p l e (rmK 3 79) s m args below meth c H locs 0 0 (MQ below (cV D ay kM NM ad σ0) args s 0 0 (aN NM ad)) (F0 m 0 ls []) := by
  have k_a0 := okr_in ok_a0
  unfold F_X12_fillsHearers at hf
  refine lv_iconst (v := (0 : Int32)) G.hx G.hb (dcs_get dec_X12_fillsHearers_0 0 rfl) (by decide) ?_
  refine lv_istore_n (lv' := [(2, .int (0 : Int32)), (0, .ref (ad a0)), (1, .int l1)]) G.hx G.hb (dcs_get dec_X12_fillsHearers_0 1 rfl) rfl hl (by decide) rfl (fun ls hl => ?_)
  exact B_X12_fillsHearers_2 a0 l1 (0 : Int32) σ G hm ok_a0 hf  w (lv_sub hl [1, 2, 0] rfl)
end
set_option maxRecDepth 100000 in
set_option maxHeartbeats 4000000 in
theorem C_X12_fillsHearers {l : Launch} {D : va_G} {ay : Nat → ClassId} {ad : Nat → Nat} (hi : hInj NM ad) (a0 : Nat) (l1 : Int32) (σ : hSt) {σ0 : hSt} (hf : F_X12_fillsHearers a0 l1 σ = some σ0) (ok_a0 : okr kM NM 12 a0 = true) : hM l D ay kM NM ad yX12_fillsHearers cX12_fillsHearers 4 (none) (rmK 3 79) [.ref (ad a0), .int l1] σ (cV D ay kM NM ad σ0) := by
  refine hM_in (by decide) hi (Nat.le_of_ble_eq_true rfl) ?_
  intro p e s m below meth c G hm w ls hl
  exact B_X12_fillsHearers_0 a0 l1 σ G hm ok_a0 hf w (lv_sub hl [0, 1] rfl)

/-! HillDrumsModel.hears(III)I -/
def DL_X12_hears_0 : List (Nat × Instr × Nat) := [(0, .aload_n 0, 1), (1, .iload_n 1, 1), (2, .invokevirtual 342, 3), (5, .ifCond .eq 22, 3), (8, .aload_n 0, 1), (9, .iload_n 2, 1), (10, .invokevirtual 342, 3), (13, .ifCond .eq 14, 3), (16, .iload_n 3, 1), (17, .iconst 0, 1), (18, .sipush 9999, 3), (21, .invokestatic 323, 3), (24, .ifCond .ne 5, 3), (27, .iconst (-1), 1), (28, .ireturn, 1), (29, .aload_n 0, 1), (30, .iload_n 1, 1), (31, .iload_n 2, 1), (32, .iload_n 3, 1), (33, .invokevirtual 339, 3), (36, .ifCond .eq 7, 3), (39, .iconst 1, 1), (40, .goto 4, 3), (43, .iconst 0, 1), (44, .ireturn, 1)]
set_option maxRecDepth 100000 in
theorem dec_X12_hears_0 : dcs cX12_hears DL_X12_hears_0 = true := by decide +kernel
theorem lb_X12_hears : lkB yX12_hears cX12_hears 4 ((some .int)) 3 := ⟨q_1345, q_14, ⟨by decide, by decide⟩, by decide +kernel⟩
theorem lv_X12_hears : lkV yX12_hears := ⟨q_1343, q_1344⟩
def F_X12_hears_27  (σ : hSt) : Option (Int32 × hSt) :=
some (((-1 : Int32), σ))
def F_X12_hears_44 (s0 : Int32) (σ : hSt) : Option (Int32 × hSt) :=
some ((s0, σ))
def F_X12_hears (a0 : Nat) (l1 : Int32) (l2 : Int32) (l3 : Int32) (σ : hSt) : Option (Int32 × hSt) :=
(F_X12_isHill a0 l1 σ).bind fun v2 =>
if v2 = 0 then (
F_X12_hears_27  σ) else (
(F_X12_isHill a0 l2 σ).bind fun v4 =>
if v4 = 0 then (
F_X12_hears_27  σ) else (
(F_X12_in l3 (0 : Int32) (9999 : Int32) σ).bind fun v6 =>
if v6 = 0 then (
F_X12_hears_27  σ) else (
cC (F_X12_isHeardBy a0 l1 l2 l3 σ) fun v8 σ9 =>
if v8 = 0 then (
F_X12_hears_44 (0 : Int32) σ9) else (
F_X12_hears_44 (1 : Int32) σ9))))
section
variable {p : Program} {l : Launch} {e : Env} {s : State} {m : MethodId} {args : Array Value} {below : List Frame} {meth : Method} {c : Code} {D : va_G} {ay : Nat → ClassId} {ad : Nat → Nat}
set_option maxRecDepth 100000 in
set_option maxHeartbeats 4000000 in
theorem B_X12_hears_27 {H : Heap} {locs : List Loc} {ls : Array Slot} {r0 : Int32} {σ0 : hSt}  (σ : hSt) (G : Gx p m c cX12_hears 4 s args RX12 D ay NM ad (aN NM ad)) (hm : meth.sig.returnType = (some .int) ∧ meth.locks = false)  (hf : F_X12_hears_27  σ = some (r0, σ0))  (w : Wd D ay kM NM ad (aN NM ad) s σ H locs) (hl : lv_has ls 4 []) : W p l e (rmK 3 79) s m args below meth c H locs 0 0 (MQ below (cI D ay kM NM ad r0 σ0) args s 0 0 (aN NM ad)) (F0 m 27 ls []) := by
  unfold F_X12_hears_27 at hf
  refine lv_iconst (v := (-1 : Int32)) G.hx G.hb (dcs_get dec_X12_hears_0 13 rfl) (by decide) ?_
  have e9 := Option.some.inj hf
  exact r_iret G w hm (congrArg Prod.fst e9) (congrArg Prod.snd e9) (dcs_get dec_X12_hears_0 14 rfl)
set_option maxRecDepth 100000 in
set_option maxHeartbeats 4000000 in
theorem B_X12_hears_44 {H : Heap} {locs : List Loc} {ls : Array Slot} {r0 : Int32} {σ0 : hSt} (s0 : Int32) (σ : hSt) (G : Gx p m c cX12_hears 4 s args RX12 D ay NM ad (aN NM ad)) (hm : meth.sig.returnType = (some .int) ∧ meth.locks = false)  (hf : F_X12_hears_44 s0 σ = some (r0, σ0))  (w : Wd D ay kM NM ad (aN NM ad) s σ H locs) (hl : lv_has ls 4 []) : W p l e (rmK 3 79) s m args below meth c H locs 0 0 (MQ below (cI D ay kM NM ad r0 σ0) args s 0 0 (aN NM ad)) (F0 m 44 ls [.int s0]) := by
  unfold F_X12_hears_44 at hf
  have e9 := Option.some.inj hf
  exact r_iret G w hm (congrArg Prod.fst e9) (congrArg Prod.snd e9) (dcs_get dec_X12_hears_0 24 rfl)
set_option maxRecDepth 100000 in
set_option maxHeartbeats 4000000 in
theorem B_X12_hears_0 {H : Heap} {locs : List Loc} {ls : Array Slot} {r0 : Int32} {σ0 : hSt} (a0 : Nat) (l1 : Int32) (l2 : Int32) (l3 : Int32) (σ : hSt) (G : Gx p m c cX12_hears 4 s args RX12 D ay NM ad (aN NM ad)) (hm : meth.sig.returnType = (some .int) ∧ meth.locks = false) (ok_a0 : okr kM NM 12 a0 = true) (hf : F_X12_hears a0 l1 l2 l3 σ = some (r0, σ0))  (w : Wd D ay kM NM ad (aN NM ad) s σ H locs) (hl : lv_has ls 4 [(0, .ref (ad a0)), (1, .int l1), (2, .int l2), (3, .int l3)]) : W p l e (rmK 3 79) s m args below meth c H locs 0 0 (MQ below (cI D ay kM NM ad r0 σ0) args s 0 0 (aN NM ad)) (F0 m 0 ls []) := by
  have k_a0 := okr_in ok_a0
  unfold F_X12_hears at hf
  refine lv_aload_n G.hx G.hb (dcs_get dec_X12_hears_0 0 rfl) rfl (lv_at hl 0 rfl) ?_
  refine lv_iload_n G.hx G.hb (dcs_get dec_X12_hears_0 1 rfl) rfl (lv_at hl 1 rfl) ?_
  obtain ⟨v2, h1, hf⟩ := cB_some hf
  refine a_i (k_V (As := [.int l1]) (rest := []) cls12 lb_X12_isHill lv_X12_isHill q_1346 (C_X12_isHill G.2.2.1 a0 l1 σ h1 ok_a0) ⟨(Nat.le_of_ble_eq_true rfl), (Nat.le_of_ble_eq_true rfl)⟩ G w k_a0.1 k_a0.2 rfl rfl hl.1 (Nat.le_of_ble_eq_true rfl) (dcs_get dec_X12_hears_0 2 rfl) ⟨Nat.le_refl _, Nat.le_refl _⟩) G w (fun H locs w => ?_)
  refine lv_if_eq (tgt := 27) G.hx G.hb (dcs_get dec_X12_hears_0 3 rfl) (by decide) (fun hc => ?_) (fun hc => ?_)
  · rw [if_pos hc] at hf
    exact B_X12_hears_27  σ G hm  hf  w (lv_sub hl [] rfl)
  · rw [if_neg hc] at hf
    refine lv_aload_n G.hx G.hb (dcs_get dec_X12_hears_0 4 rfl) rfl (lv_at hl 0 rfl) ?_
    refine lv_iload_n G.hx G.hb (dcs_get dec_X12_hears_0 5 rfl) rfl (lv_at hl 2 rfl) ?_
    obtain ⟨v4, h3, hf⟩ := cB_some hf
    refine a_i (k_V (As := [.int l2]) (rest := []) cls12 lb_X12_isHill lv_X12_isHill q_1346 (C_X12_isHill G.2.2.1 a0 l2 σ h3 ok_a0) ⟨(Nat.le_of_ble_eq_true rfl), (Nat.le_of_ble_eq_true rfl)⟩ G w k_a0.1 k_a0.2 rfl rfl hl.1 (Nat.le_of_ble_eq_true rfl) (dcs_get dec_X12_hears_0 6 rfl) ⟨Nat.le_refl _, Nat.le_refl _⟩) G w (fun H locs w => ?_)
    refine lv_if_eq (tgt := 27) G.hx G.hb (dcs_get dec_X12_hears_0 7 rfl) (by decide) (fun hc => ?_) (fun hc => ?_)
    · rw [if_pos hc] at hf
      exact B_X12_hears_27  σ G hm  hf  w (lv_sub hl [] rfl)
    · rw [if_neg hc] at hf
      refine lv_iload_n G.hx G.hb (dcs_get dec_X12_hears_0 8 rfl) rfl (lv_at hl 3 rfl) ?_
      refine lv_iconst (v := (0 : Int32)) G.hx G.hb (dcs_get dec_X12_hears_0 9 rfl) (by decide) ?_
      refine lv_sipush (v := (9999 : Int32)) G.hx G.hb (dcs_get dec_X12_hears_0 10 rfl) (by decide) ?_
      obtain ⟨v6, h5, hf⟩ := cB_some hf
      refine a_i (k_S (As := [.int l3, .int (0 : Int32), .int (9999 : Int32)]) (rest := []) lb_X12_in q_1351 q_1350 (C_X12_in G.2.2.1 l3 (0 : Int32) (9999 : Int32) σ h5 ) ⟨(Nat.le_of_ble_eq_true rfl), (Nat.le_of_ble_eq_true rfl)⟩ G w rfl rfl hl.1 (Nat.le_of_ble_eq_true rfl) (dcs_get dec_X12_hears_0 11 rfl) ⟨Nat.le_refl _, Nat.le_refl _⟩) G w (fun H locs w => ?_)
      refine lv_if_ne (tgt := 29) G.hx G.hb (dcs_get dec_X12_hears_0 12 rfl) (by decide) (fun hc => ?_) (fun hc => ?_)
      · rw [if_neg hc] at hf
        refine lv_aload_n G.hx G.hb (dcs_get dec_X12_hears_0 15 rfl) rfl (lv_at hl 0 rfl) ?_
        refine lv_iload_n G.hx G.hb (dcs_get dec_X12_hears_0 16 rfl) rfl (lv_at hl 1 rfl) ?_
        refine lv_iload_n G.hx G.hb (dcs_get dec_X12_hears_0 17 rfl) rfl (lv_at hl 2 rfl) ?_
        refine lv_iload_n G.hx G.hb (dcs_get dec_X12_hears_0 18 rfl) rfl (lv_at hl 3 rfl) ?_
        obtain ⟨v8, σ9, h7, hf⟩ := cC_some hf
        refine a_i (k_V (As := [.int l1, .int l2, .int l3]) (rest := []) cls12 lb_X12_isHeardBy lv_X12_isHeardBy q_1353 (C_X12_isHeardBy G.2.2.1 a0 l1 l2 l3 σ h7 ok_a0) ⟨(Nat.le_of_ble_eq_true rfl), (Nat.le_of_ble_eq_true rfl)⟩ G w k_a0.1 k_a0.2 rfl rfl hl.1 (Nat.le_of_ble_eq_true rfl) (dcs_get dec_X12_hears_0 19 rfl) ⟨Nat.le_refl _, Nat.le_refl _⟩) G w (fun H locs w => ?_)
        refine lv_if_eq (tgt := 43) G.hx G.hb (dcs_get dec_X12_hears_0 20 rfl) (by decide) (fun hc => ?_) (fun hc => ?_)
        · rw [if_pos hc] at hf
          refine lv_iconst (v := (0 : Int32)) G.hx G.hb (dcs_get dec_X12_hears_0 23 rfl) (by decide) ?_
          exact B_X12_hears_44 (0 : Int32) σ9 G hm  hf  w (lv_sub hl [] rfl)
        · rw [if_neg hc] at hf
          refine lv_iconst (v := (1 : Int32)) G.hx G.hb (dcs_get dec_X12_hears_0 21 rfl) (by decide) ?_
          refine lv_goto (tgt := 44) G.hx G.hb (dcs_get dec_X12_hears_0 22 rfl) (by decide) ?_
          exact B_X12_hears_44 (1 : Int32) σ9 G hm  hf  w (lv_sub hl [] rfl)
      · rw [if_pos hc] at hf
        exact B_X12_hears_27  σ G hm  hf  w (lv_sub hl [] rfl)
end
set_option maxRecDepth 100000 in
set_option maxHeartbeats 4000000 in
theorem C_X12_hears {l : Launch} {D : va_G} {ay : Nat → ClassId} {ad : Nat → Nat} (hi : hInj NM ad) (a0 : Nat) (l1 : Int32) (l2 : Int32) (l3 : Int32) (σ : hSt) {r0 : Int32} {σ0 : hSt} (hf : F_X12_hears a0 l1 l2 l3 σ = some (r0, σ0)) (ok_a0 : okr kM NM 12 a0 = true) : hM l D ay kM NM ad yX12_hears cX12_hears 4 ((some .int)) (rmK 3 79) [.ref (ad a0), .int l1, .int l2, .int l3] σ (cI D ay kM NM ad r0 σ0) := by
  refine hM_in (by decide) hi (Nat.le_of_ble_eq_true rfl) ?_
  intro p e s m below meth c G hm w ls hl
  exact B_X12_hears_0 a0 l1 l2 l3 σ G hm ok_a0 hf w (lv_sub hl [0, 1, 2, 3] rfl)

/-! HillDrumsModel.copies()V -/
def DL_X12_copies_0 : List (Nat × Instr × Nat) := [(0, .iconst 0, 1), (1, .istore_n 1, 1), (2, .iload_n 1, 1), (3, .sipush 380, 3), (6, .if_icmp .ge 21, 3), (9, .aload_n 0, 1), (10, .getfield 128, 3), (13, .iload_n 1, 1), (14, .aload_n 0, 1), (15, .getfield 125, 3), (18, .iload_n 1, 1), (19, .iaload, 1), (20, .iastore, 1), (21, .iinc 1 1, 3), (24, .goto (-22), 3), (27, .aload_n 0, 1), (28, .aload_n 0, 1), (29, .getfield 70, 3), (32, .aload_n 0, 1), (33, .getfield 236, 3), (36, .iaload, 1), (37, .putfield 348, 3), (40, .aload_n 0, 1), (41, .iconst (-1), 1), (42, .putfield 351, 3), (45, .return_, 1)]
set_option maxRecDepth 100000 in
theorem dec_X12_copies_0 : dcs cX12_copies DL_X12_copies_0 = true := by decide +kernel
theorem lb_X12_copies : lkB yX12_copies cX12_copies 2 (none) 0 := ⟨q_1391, q_14, ⟨by decide, by decide⟩, by decide +kernel⟩
theorem lv_X12_copies : lkV yX12_copies := ⟨q_1390, qs_100⟩
def F_X12_copies_2b (a0 : Nat) (l1 : Int32) (σ : hSt) : Option ((Int32 × hSt) ⊕ (hSt)) :=
if (380 : Int32) ≤ l1 then (
cR (σ.2.2 a0 31) (okr kM NM 101) fun z1 =>
cG (inb (σ.1 a0 18) (kM z1).2) <|
cL (uI σ a0 55 (σ.1 z1 (σ.1 a0 18).toNatClampNeg)) fun σ3 =>
cL (uI σ3 a0 56 (-1 : Int32)) fun σ4 =>
some (.inr (σ4))) else (
cR (σ.2.2 a0 54) (okr kM NM 101) fun z5 =>
cR (σ.2.2 a0 53) (okr kM NM 101) fun z6 =>
cG (inb l1 (kM z6).2) <|
cG (inb l1 (kM z5).2) <|
cL (uI σ z5 l1.toNatClampNeg (σ.1 z6 l1.toNatClampNeg)) fun σ9 =>
cL (l1 + (1 : Int32)) fun v10 =>
some (.inl (v10, σ9)))
def S_X12_copies_2 (a0 : Nat) (v : Int32 × hSt) : Option ((Int32 × hSt) ⊕ (hSt)) := F_X12_copies_2b a0 v.1 v.2
def F_X12_copies_2 (a0 : Nat) (l1 : Int32) (σ : hSt) : Option (hSt) := lp (S_X12_copies_2 a0) fuel (l1, σ)
def F_X12_copies (a0 : Nat) (σ : hSt) : Option (hSt) :=
F_X12_copies_2 a0 (0 : Int32) σ
section
variable {p : Program} {l : Launch} {e : Env} {s : State} {m : MethodId} {args : Array Value} {below : List Frame} {meth : Method} {c : Code} {D : va_G} {ay : Nat → ClassId} {ad : Nat → Nat}
set_option maxRecDepth 100000 in
set_option maxHeartbeats 4000000 in
theorem B_X12_copies_2b {H : Heap} {locs : List Loc} {ls : Array Slot} {σ0 : hSt} {o : (Int32 × hSt) ⊕ (hSt)} (a0 : Nat) (l1 : Int32) (σ : hSt) (G : Gx p m c cX12_copies 2 s args RX12 D ay NM ad (aN NM ad)) (hm : meth.sig.returnType = none ∧ meth.locks = false) (ok_a0 : okr kM NM 12 a0 = true) (hf : F_X12_copies_2b a0 l1 σ = some o) (hb0 : ∀ (v : Int32 × hSt), o = .inl v → ∀ (H : Heap) (locs : List Loc) (ls : Array Slot), Wd D ay kM NM ad (aN NM ad) s v.2 H locs → lv_has ls 2 [(0, .ref (ad a0)), (1, .int v.1)] → W p l e (rmK 0 0) s m args below meth c H locs 0 0 (MQ below (cV D ay kM NM ad σ0) args s 0 0 (aN NM ad)) (F0 m 2 ls [])) (hr : ∀ x, o = .inr (x) → x = σ0) (w : Wd D ay kM NM ad (aN NM ad) s σ H locs) (hl : lv_has ls 2 [(0, .ref (ad a0)), (1, .int l1)]) : W p l e (rmK 0 0) s m args below meth c H locs 0 0 (MQ below (cV D ay kM NM ad σ0) args s 0 0 (aN NM ad)) (F0 m 2 ls []) := by
  have k_a0 := okr_in ok_a0
  unfold F_X12_copies_2b at hf
  refine lv_iload_n G.hx G.hb (dcs_get dec_X12_copies_0 2 rfl) rfl (lv_at hl 1 rfl) ?_
  refine lv_sipush (v := (380 : Int32)) G.hx G.hb (dcs_get dec_X12_copies_0 3 rfl) (by decide) ?_
  refine lv_icmp_ge (tgt := 27) G.hx G.hb (dcs_get dec_X12_copies_0 4 rfl) (by decide) (fun hc => ?_) (fun hc => ?_)
  · rw [if_pos hc] at hf
    refine lv_aload_n G.hx G.hb (dcs_get dec_X12_copies_0 15 rfl) rfl (lv_at hl 0 rfl) ?_
    refine lv_aload_n G.hx G.hb (dcs_get dec_X12_copies_0 16 rfl) rfl (lv_at hl 0 rfl) ?_
    obtain ⟨z1, e_z1, ok_z1, hf⟩ := cR_some hf
    have k_z1 := okr_in ok_z1
    refine r_getr (k := 31) cls12 fi_12_31.1 fi_12_31.2 q_1039 G w k_a0.1 k_a0.2 e_z1 (dcs_get dec_X12_copies_0 17 rfl) ?_
    refine lv_aload_n G.hx G.hb (dcs_get dec_X12_copies_0 18 rfl) rfl (lv_at hl 0 rfl) ?_
    refine r_geti (k := 18) cls12 fi_12_18.1 fi_12_18.2 q_1026 G w k_a0.1 k_a0.2 (dcs_get dec_X12_copies_0 19 rfl) ?_
    obtain ⟨h2, hf⟩ := cG_some hf
    refine r_iald G w k_z1.1 k_z1.2 h2 (dcs_get dec_X12_copies_0 20 rfl) ?_
    obtain ⟨σ3, e_σ3, hf⟩ := cL_some hf
    refine r_puti (k := 55) cls12 ct12 fi_12_55.1 fi_12_55.2 fp_12_55.1 fp_12_55.2 q_1063 rfl rfl G w k_a0.1 k_a0.2 (dcs_get dec_X12_copies_0 21 rfl) (fun H locs w => ?_)
    have w := Wd.nm e_σ3 w
    refine lv_aload_n G.hx G.hb (dcs_get dec_X12_copies_0 22 rfl) rfl (lv_at hl 0 rfl) ?_
    refine lv_iconst (v := (-1 : Int32)) G.hx G.hb (dcs_get dec_X12_copies_0 23 rfl) (by decide) ?_
    obtain ⟨σ4, e_σ4, hf⟩ := cL_some hf
    refine r_puti (k := 56) cls12 ct12 fi_12_56.1 fi_12_56.2 fp_12_56.1 fp_12_56.2 q_1064 rfl rfl G w k_a0.1 k_a0.2 (dcs_get dec_X12_copies_0 24 rfl) (fun H locs w => ?_)
    have w := Wd.nm e_σ4 w
    have e9 := hr _ (Option.some.inj hf).symm
    exact r_vret G w hm e9 (dcs_get dec_X12_copies_0 25 rfl)
  · rw [if_neg hc] at hf
    refine lv_aload_n G.hx G.hb (dcs_get dec_X12_copies_0 5 rfl) rfl (lv_at hl 0 rfl) ?_
    obtain ⟨z5, e_z5, ok_z5, hf⟩ := cR_some hf
    have k_z5 := okr_in ok_z5
    refine r_getr (k := 54) cls12 fi_12_54.1 fi_12_54.2 q_1062 G w k_a0.1 k_a0.2 e_z5 (dcs_get dec_X12_copies_0 6 rfl) ?_
    refine lv_iload_n G.hx G.hb (dcs_get dec_X12_copies_0 7 rfl) rfl (lv_at hl 1 rfl) ?_
    refine lv_aload_n G.hx G.hb (dcs_get dec_X12_copies_0 8 rfl) rfl (lv_at hl 0 rfl) ?_
    obtain ⟨z6, e_z6, ok_z6, hf⟩ := cR_some hf
    have k_z6 := okr_in ok_z6
    refine r_getr (k := 53) cls12 fi_12_53.1 fi_12_53.2 q_1061 G w k_a0.1 k_a0.2 e_z6 (dcs_get dec_X12_copies_0 9 rfl) ?_
    refine lv_iload_n G.hx G.hb (dcs_get dec_X12_copies_0 10 rfl) rfl (lv_at hl 1 rfl) ?_
    obtain ⟨h7, hf⟩ := cG_some hf
    refine r_iald G w k_z6.1 k_z6.2 h7 (dcs_get dec_X12_copies_0 11 rfl) ?_
    obtain ⟨h8, hf⟩ := cG_some hf
    obtain ⟨σ9, e_σ9, hf⟩ := cL_some hf
    refine r_iast G w k_z5.1 k_z5.2 h8 (dcs_get dec_X12_copies_0 12 rfl) (fun H locs w => ?_)
    have w := Wd.nm e_σ9 w
    obtain ⟨v10, e_v10, hf⟩ := cL_some hf
    refine lv_iinc (v := v10) (lv' := [(1, .int v10), (0, .ref (ad a0))]) G.hx G.hb (dcs_get dec_X12_copies_0 13 rfl) hl (k := 1) rfl (by rw [e_v10]; rfl) (by decide) rfl (fun ls hl => ?_)
    refine lv_goto (tgt := 2) G.hx G.hb (dcs_get dec_X12_copies_0 14 rfl) (by decide) ?_
    exact hb0 _ (Option.some.inj hf).symm _ _ _ w (lv_sub hl [1, 0] rfl)
set_option maxRecDepth 100000 in
set_option maxHeartbeats 4000000 in
theorem H_X12_copies_2 {σ0 : hSt} (a0 : Nat) (G : Gx p m c cX12_copies 2 s args RX12 D ay NM ad (aN NM ad)) (hm : meth.sig.returnType = none ∧ meth.locks = false) (ok_a0 : okr kM NM 12 a0 = true)  : ∀ (k : Nat) (v : Int32 × hSt), lp (S_X12_copies_2 a0) k v = some σ0 → ∀ (H : Heap) (locs : List Loc) (ls : Array Slot), Wd D ay kM NM ad (aN NM ad) s v.2 H locs → lv_has ls 2 [(0, .ref (ad a0)), (1, .int v.1)] → W p l e (rmK 0 0) s m args below meth c H locs 0 0 (MQ below (cV D ay kM NM ad σ0) args s 0 0 (aN NM ad)) (F0 m 2 ls []) := by
  intro k
  induction k with
  | zero => intro v hf; cases hf
  | succ k ih =>
    intro v hf H locs ls w hl
    obtain ⟨o1, h1, h2, h3⟩ := lp_some hf
    exact B_X12_copies_2b a0 v.1 v.2 G hm ok_a0 h1  (fun v' e => ih v' (h2 v' e)) (fun x e => h3 x e) w hl
set_option maxRecDepth 100000 in
set_option maxHeartbeats 4000000 in
theorem B_X12_copies_2 {H : Heap} {locs : List Loc} {ls : Array Slot} {σ0 : hSt} (a0 : Nat) (l1 : Int32) (σ : hSt) (G : Gx p m c cX12_copies 2 s args RX12 D ay NM ad (aN NM ad)) (hm : meth.sig.returnType = none ∧ meth.locks = false) (ok_a0 : okr kM NM 12 a0 = true) (hf : F_X12_copies_2 a0 l1 σ = some σ0)  (w : Wd D ay kM NM ad (aN NM ad) s σ H locs) (hl : lv_has ls 2 [(0, .ref (ad a0)), (1, .int l1)]) : W p l e (rmK 0 0) s m args below meth c H locs 0 0 (MQ below (cV D ay kM NM ad σ0) args s 0 0 (aN NM ad)) (F0 m 2 ls []) := by
  unfold F_X12_copies_2 at hf
  exact H_X12_copies_2 a0  G hm ok_a0  fuel (l1, σ) hf _ _ _ w hl
set_option maxRecDepth 100000 in
set_option maxHeartbeats 4000000 in
theorem B_X12_copies_0 {H : Heap} {locs : List Loc} {ls : Array Slot} {σ0 : hSt} (a0 : Nat) (σ : hSt) (G : Gx p m c cX12_copies 2 s args RX12 D ay NM ad (aN NM ad)) (hm : meth.sig.returnType = none ∧ meth.locks = false) (ok_a0 : okr kM NM 12 a0 = true) (hf : F_X12_copies a0 σ = some σ0)  (w : Wd D ay kM NM ad (aN NM ad) s σ H locs) (hl : lv_has ls 2 [(0, .ref (ad a0))]) : W p l e (rmK 0 0) s m args below meth c H locs 0 0 (MQ below (cV D ay kM NM ad σ0) args s 0 0 (aN NM ad)) (F0 m 0 ls []) := by
  have k_a0 := okr_in ok_a0
  unfold F_X12_copies at hf
  refine lv_iconst (v := (0 : Int32)) G.hx G.hb (dcs_get dec_X12_copies_0 0 rfl) (by decide) ?_
  refine lv_istore_n (lv' := [(1, .int (0 : Int32)), (0, .ref (ad a0))]) G.hx G.hb (dcs_get dec_X12_copies_0 1 rfl) rfl hl (by decide) rfl (fun ls hl => ?_)
  exact B_X12_copies_2 a0 (0 : Int32) σ G hm ok_a0 hf  w (lv_sub hl [1, 0] rfl)
end
set_option maxRecDepth 100000 in
set_option maxHeartbeats 4000000 in
theorem C_X12_copies {l : Launch} {D : va_G} {ay : Nat → ClassId} {ad : Nat → Nat} (hi : hInj NM ad) (a0 : Nat) (σ : hSt) {σ0 : hSt} (hf : F_X12_copies a0 σ = some σ0) (ok_a0 : okr kM NM 12 a0 = true) : hM l D ay kM NM ad yX12_copies cX12_copies 2 (none) (rmK 0 0) [.ref (ad a0)] σ (cV D ay kM NM ad σ0) := by
  refine hM_in (by decide) hi (Nat.le_of_ble_eq_true rfl) ?_
  intro p e s m below meth c G hm w ls hl
  exact B_X12_copies_0 a0 σ G hm ok_a0 hf w (lv_sub hl [0] rfl)

/-! HillDrumsModel.knows(II)Z -/
def DL_X12_knows_0 : List (Nat × Instr × Nat) := [(0, .aload_n 0, 1), (1, .getfield 128, 3), (4, .iconst 4, 1), (5, .iload_n 1, 1), (6, .imul, 1), (7, .iload_n 2, 1), (8, .iadd, 1), (9, .iaload, 1), (10, .iconst 1, 1), (11, .if_icmp .ne 7, 3), (14, .iconst 1, 1), (15, .goto 4, 3), (18, .iconst 0, 1), (19, .ireturn, 1)]
set_option maxRecDepth 100000 in
theorem dec_X12_knows_0 : dcs cX12_knows DL_X12_knows_0 = true := by decide +kernel
theorem lb_X12_knows : lkB yX12_knows cX12_knows 3 ((some .boolean)) 2 := ⟨q_1395, q_14, ⟨by decide, by decide⟩, by decide +kernel⟩
theorem lv_X12_knows : lkV yX12_knows := ⟨q_1394, qs_101⟩
def F_X12_knows_19 (s0 : Int32) (σ : hSt) : Option (Int32) :=
cG (isB s0) <|
some (s0)
def F_X12_knows (a0 : Nat) (l1 : Int32) (l2 : Int32) (σ : hSt) : Option (Int32) :=
cR (σ.2.2 a0 54) (okr kM NM 101) fun z2 =>
cG (inb (((4 : Int32) * l1) + l2) (kM z2).2) <|
if (σ.1 z2 (((4 : Int32) * l1) + l2).toNatClampNeg) = (1 : Int32) then (
F_X12_knows_19 (1 : Int32) σ) else (
F_X12_knows_19 (0 : Int32) σ)
section
variable {p : Program} {l : Launch} {e : Env} {s : State} {m : MethodId} {args : Array Value} {below : List Frame} {meth : Method} {c : Code} {D : va_G} {ay : Nat → ClassId} {ad : Nat → Nat}
set_option maxRecDepth 100000 in
set_option maxHeartbeats 4000000 in
theorem B_X12_knows_19 {H : Heap} {locs : List Loc} {ls : Array Slot} {r0 : Int32} (s0 : Int32) (σ : hSt) (G : Gx p m c cX12_knows 3 s args RX12 D ay NM ad (aN NM ad)) (hm : meth.sig.returnType = (some .boolean) ∧ meth.locks = false)  (hf : F_X12_knows_19 s0 σ = some r0)  (w : Wd D ay kM NM ad (aN NM ad) s σ H locs) (hl : lv_has ls 3 []) : W p l e (rmK 0 0) s m args below meth c H locs 0 0 (MQ below (cI D ay kM NM ad r0 σ) args s 0 0 (aN NM ad)) (F0 m 19 ls [.int s0]) := by
  unfold F_X12_knows_19 at hf
  obtain ⟨h1, hf⟩ := cG_some hf
  have e9 := Option.some.inj hf
  exact r_zret (isB_nar h1) G w hm e9 rfl (dcs_get dec_X12_knows_0 13 rfl)
set_option maxRecDepth 100000 in
set_option maxHeartbeats 4000000 in
theorem B_X12_knows_0 {H : Heap} {locs : List Loc} {ls : Array Slot} {r0 : Int32} (a0 : Nat) (l1 : Int32) (l2 : Int32) (σ : hSt) (G : Gx p m c cX12_knows 3 s args RX12 D ay NM ad (aN NM ad)) (hm : meth.sig.returnType = (some .boolean) ∧ meth.locks = false) (ok_a0 : okr kM NM 12 a0 = true) (hf : F_X12_knows a0 l1 l2 σ = some r0)  (w : Wd D ay kM NM ad (aN NM ad) s σ H locs) (hl : lv_has ls 3 [(0, .ref (ad a0)), (1, .int l1), (2, .int l2)]) : W p l e (rmK 0 0) s m args below meth c H locs 0 0 (MQ below (cI D ay kM NM ad r0 σ) args s 0 0 (aN NM ad)) (F0 m 0 ls []) := by
  have k_a0 := okr_in ok_a0
  unfold F_X12_knows at hf
  refine lv_aload_n G.hx G.hb (dcs_get dec_X12_knows_0 0 rfl) rfl (lv_at hl 0 rfl) ?_
  obtain ⟨z2, e_z2, ok_z2, hf⟩ := cR_some hf
  have k_z2 := okr_in ok_z2
  refine r_getr (k := 54) cls12 fi_12_54.1 fi_12_54.2 q_1062 G w k_a0.1 k_a0.2 e_z2 (dcs_get dec_X12_knows_0 1 rfl) ?_
  refine lv_iconst (v := (4 : Int32)) G.hx G.hb (dcs_get dec_X12_knows_0 2 rfl) (by decide) ?_
  refine lv_iload_n G.hx G.hb (dcs_get dec_X12_knows_0 3 rfl) rfl (lv_at hl 1 rfl) ?_
  refine lv_imul G.hx G.hb (dcs_get dec_X12_knows_0 4 rfl) ?_
  refine lv_iload_n G.hx G.hb (dcs_get dec_X12_knows_0 5 rfl) rfl (lv_at hl 2 rfl) ?_
  refine lv_iadd G.hx G.hb (dcs_get dec_X12_knows_0 6 rfl) ?_
  obtain ⟨h3, hf⟩ := cG_some hf
  refine r_iald G w k_z2.1 k_z2.2 h3 (dcs_get dec_X12_knows_0 7 rfl) ?_
  refine lv_iconst (v := (1 : Int32)) G.hx G.hb (dcs_get dec_X12_knows_0 8 rfl) (by decide) ?_
  refine lv_icmp_ne (tgt := 18) G.hx G.hb (dcs_get dec_X12_knows_0 9 rfl) (by decide) (fun hc => ?_) (fun hc => ?_)
  · rw [if_neg hc] at hf
    refine lv_iconst (v := (0 : Int32)) G.hx G.hb (dcs_get dec_X12_knows_0 12 rfl) (by decide) ?_
    exact B_X12_knows_19 (0 : Int32) σ G hm  hf  w (lv_sub hl [] rfl)
  · rw [if_pos hc] at hf
    refine lv_iconst (v := (1 : Int32)) G.hx G.hb (dcs_get dec_X12_knows_0 10 rfl) (by decide) ?_
    refine lv_goto (tgt := 19) G.hx G.hb (dcs_get dec_X12_knows_0 11 rfl) (by decide) ?_
    exact B_X12_knows_19 (1 : Int32) σ G hm  hf  w (lv_sub hl [] rfl)
end
set_option maxRecDepth 100000 in
set_option maxHeartbeats 4000000 in
theorem C_X12_knows {l : Launch} {D : va_G} {ay : Nat → ClassId} {ad : Nat → Nat} (hi : hInj NM ad) (a0 : Nat) (l1 : Int32) (l2 : Int32) (σ : hSt) {r0 : Int32} (hf : F_X12_knows a0 l1 l2 σ = some r0) (ok_a0 : okr kM NM 12 a0 = true) : hM l D ay kM NM ad yX12_knows cX12_knows 3 ((some .boolean)) (rmK 0 0) [.ref (ad a0), .int l1, .int l2] σ (cI D ay kM NM ad r0 σ) := by
  refine hM_in (by decide) hi (Nat.le_of_ble_eq_true rfl) ?_
  intro p e s m below meth c G hm w ls hl
  exact B_X12_knows_0 a0 l1 l2 σ G hm ok_a0 hf w (lv_sub hl [0, 1, 2] rfl)

/-! HillDrumsModel.spreads(IIII)I -/
def DL_X12_spreads_0 : List (Nat × Instr × Nat) := [(0, .iconst 0, 1), (1, .istore 5, 2), (3, .iconst 0, 1), (4, .istore 6, 2), (6, .iload 6, 2), (8, .aload_n 0, 1), (9, .getfield 49, 3), (12, .aload_n 0, 1), (13, .getfield 236, 3), (16, .iaload, 1), (17, .if_icmp .ge 123, 3), (20, .iload 4, 2), (22, .iload 6, 2), (24, .ishr, 1), (25, .iconst 1, 1), (26, .iand, 1), (27, .ifCond .eq 107, 3), (30, .iload 6, 2), (32, .iload_n 1, 1), (33, .if_icmp .ne 6, 3), (36, .goto 98, 3), (39, .iinc 5 1, 3), (42, .iconst 4, 1), (43, .iload 6, 2), (45, .imul, 1), (46, .iload_n 2, 1), (47, .iadd, 1), (48, .istore 7, 2), (50, .aload_n 0, 1), (51, .getfield 128, 3), (54, .bipush 96, 2), (56, .iload 7, 2), (58, .iadd, 1), (59, .dup2, 1), (60, .iaload, 1), (61, .iload_n 3, 1), (62, .iconst 1, 1), (63, .if_icmp .ne 7, 3), (66, .iconst 2, 1), (67, .goto 4, 3)]
set_option maxRecDepth 100000 in
theorem dec_X12_spreads_0 : dcs cX12_spreads DL_X12_spreads_0 = true := by decide +kernel
def DL_X12_spreads_1 : List (Nat × Instr × Nat) := [(70, .iconst 1, 1), (71, .ior, 1), (72, .iastore, 1), (73, .aload_n 0, 1), (74, .getfield 128, 3), (77, .iload 7, 2), (79, .iaload, 1), (80, .iconst 1, 1), (81, .if_icmp .ne 6, 3), (84, .goto 50, 3), (87, .aload_n 0, 1), (88, .getfield 128, 3), (91, .iload 7, 2), (93, .iconst 1, 1), (94, .iastore, 1), (95, .aload_n 0, 1), (96, .getfield 128, 3), (99, .bipush 24, 2), (101, .iload 7, 2), (103, .iadd, 1), (104, .aload_n 0, 1), (105, .getfield 128, 3), (108, .bipush 120, 2), (110, .iaload, 1), (111, .iastore, 1), (112, .aload_n 0, 1), (113, .getfield 128, 3), (116, .bipush 48, 2), (118, .iload 7, 2), (120, .iadd, 1), (121, .iload_n 1, 1), (122, .iastore, 1), (123, .aload_n 0, 1), (124, .getfield 128, 3), (127, .bipush 72, 2), (129, .iload 7, 2), (131, .iadd, 1), (132, .iload_n 3, 1), (133, .iastore, 1), (134, .iinc 6 1, 3)]
set_option maxRecDepth 100000 in
theorem dec_X12_spreads_1 : dcs cX12_spreads DL_X12_spreads_1 = true := by decide +kernel
def DL_X12_spreads_2 : List (Nat × Instr × Nat) := [(137, .goto (-131), 3), (140, .aload_n 0, 1), (141, .getfield 128, 3), (144, .bipush 122, 2), (146, .dup2, 1), (147, .iaload, 1), (148, .iconst 1, 1), (149, .iadd, 1), (150, .iastore, 1), (151, .iload 5, 2), (153, .ireturn, 1)]
set_option maxRecDepth 100000 in
theorem dec_X12_spreads_2 : dcs cX12_spreads DL_X12_spreads_2 = true := by decide +kernel
theorem lb_X12_spreads : lkB yX12_spreads cX12_spreads 8 ((some .int)) 4 := ⟨q_1411, q_14, ⟨by decide, by decide⟩, by decide +kernel⟩
theorem lv_X12_spreads : lkV yX12_spreads := ⟨q_1410, qs_105⟩
def F_X12_spreads_134 (a0 : Nat) (l1 : Int32) (l2 : Int32) (l3 : Int32) (l4 : Int32) (l5 : Int32) (l6 : Int32) (σ : hSt) : Option ((Int32 × Int32 × hSt) ⊕ (Int32 × hSt)) :=
cL (l6 + (1 : Int32)) fun v1 =>
some (.inl (l5, v1, σ))
def F_X12_spreads_71 (a0 : Nat) (l1 : Int32) (l2 : Int32) (l3 : Int32) (l4 : Int32) (l5 : Int32) (l6 : Int32) (l7 : Int32) (s0 : Nat) (s1 : Int32) (s2 : Int32) (s3 : Int32) (σ : hSt) : Option ((Int32 × Int32 × hSt) ⊕ (Int32 × hSt)) :=
cG (inb s1 (kM s0).2) <|
cL (uI σ s0 s1.toNatClampNeg (s2 ||| s3)) fun σ3 =>
cR (σ3.2.2 a0 54) (okr kM NM 101) fun z4 =>
cG (inb l7 (kM z4).2) <|
if (σ3.1 z4 l7.toNatClampNeg) = (1 : Int32) then (
F_X12_spreads_134 a0 l1 l2 l3 l4 l5 l6 σ3) else (
cR (σ3.2.2 a0 54) (okr kM NM 101) fun z6 =>
cG (inb l7 (kM z6).2) <|
cL (uI σ3 z6 l7.toNatClampNeg (1 : Int32)) fun σ8 =>
cR (σ8.2.2 a0 54) (okr kM NM 101) fun z9 =>
cR (σ8.2.2 a0 54) (okr kM NM 101) fun z10 =>
cG (inb (120 : Int32) (kM z10).2) <|
cG (inb ((24 : Int32) + l7) (kM z9).2) <|
cL (uI σ8 z9 ((24 : Int32) + l7).toNatClampNeg (σ8.1 z10 (120 : Int32).toNatClampNeg)) fun σ13 =>
cR (σ13.2.2 a0 54) (okr kM NM 101) fun z14 =>
cG (inb ((48 : Int32) + l7) (kM z14).2) <|
cL (uI σ13 z14 ((48 : Int32) + l7).toNatClampNeg l1) fun σ16 =>
cR (σ16.2.2 a0 54) (okr kM NM 101) fun z17 =>
cG (inb ((72 : Int32) + l7) (kM z17).2) <|
cL (uI σ16 z17 ((72 : Int32) + l7).toNatClampNeg l3) fun σ19 =>
F_X12_spreads_134 a0 l1 l2 l3 l4 l5 l6 σ19)
def F_X12_spreads_6b (a0 : Nat) (l1 : Int32) (l2 : Int32) (l3 : Int32) (l4 : Int32) (l5 : Int32) (l6 : Int32) (σ : hSt) : Option ((Int32 × Int32 × hSt) ⊕ (Int32 × hSt)) :=
cR (σ.2.2 a0 24) (okr kM NM 101) fun z20 =>
cG (inb (σ.1 a0 18) (kM z20).2) <|
if (σ.1 z20 (σ.1 a0 18).toNatClampNeg) ≤ l6 then (
cR (σ.2.2 a0 54) (okr kM NM 101) fun z22 =>
cG (inb (122 : Int32) (kM z22).2) <|
cG (inb (122 : Int32) (kM z22).2) <|
cL (uI σ z22 (122 : Int32).toNatClampNeg ((σ.1 z22 (122 : Int32).toNatClampNeg) + (1 : Int32))) fun σ25 =>
some (.inr ((l5, σ25)))) else (
if ((l4 >>> (l6 &&& 31)) &&& (1 : Int32)) = 0 then (
F_X12_spreads_134 a0 l1 l2 l3 l4 l5 l6 σ) else (
if l6 = l1 then (
F_X12_spreads_134 a0 l1 l2 l3 l4 l5 l6 σ) else (
cL (l5 + (1 : Int32)) fun v26 =>
cL (((4 : Int32) * l6) + l2) fun v27 =>
cR (σ.2.2 a0 54) (okr kM NM 101) fun z28 =>
cL ((96 : Int32) + v27) fun v29 =>
cG (inb v29 (kM z28).2) <|
if l3 = (1 : Int32) then (
F_X12_spreads_71 a0 l1 l2 l3 l4 v26 l6 v27 z28 v29 (σ.1 z28 v29.toNatClampNeg) (2 : Int32) σ) else (
F_X12_spreads_71 a0 l1 l2 l3 l4 v26 l6 v27 z28 v29 (σ.1 z28 v29.toNatClampNeg) (1 : Int32) σ))))
def S_X12_spreads_6 (a0 : Nat) (l1 : Int32) (l2 : Int32) (l3 : Int32) (l4 : Int32) (v : Int32 × Int32 × hSt) : Option ((Int32 × Int32 × hSt) ⊕ (Int32 × hSt)) := F_X12_spreads_6b a0 l1 l2 l3 l4 v.1 v.2.1 v.2.2
def F_X12_spreads_6 (a0 : Nat) (l1 : Int32) (l2 : Int32) (l3 : Int32) (l4 : Int32) (l5 : Int32) (l6 : Int32) (σ : hSt) : Option (Int32 × hSt) := lp (S_X12_spreads_6 a0 l1 l2 l3 l4) fuel (l5, l6, σ)
def F_X12_spreads (a0 : Nat) (l1 : Int32) (l2 : Int32) (l3 : Int32) (l4 : Int32) (σ : hSt) : Option (Int32 × hSt) :=
F_X12_spreads_6 a0 l1 l2 l3 l4 (0 : Int32) (0 : Int32) σ
section
variable {p : Program} {l : Launch} {e : Env} {s : State} {m : MethodId} {args : Array Value} {below : List Frame} {meth : Method} {c : Code} {D : va_G} {ay : Nat → ClassId} {ad : Nat → Nat}
set_option maxRecDepth 100000 in
set_option maxHeartbeats 4000000 in
theorem B_X12_spreads_134 {H : Heap} {locs : List Loc} {ls : Array Slot} {r0 : Int32} {σ0 : hSt} {o : (Int32 × Int32 × hSt) ⊕ (Int32 × hSt)} (a0 : Nat) (l1 : Int32) (l2 : Int32) (l3 : Int32) (l4 : Int32) (l5 : Int32) (l6 : Int32) (σ : hSt) (G : Gx p m c cX12_spreads 8 s args RX12 D ay NM ad (aN NM ad)) (hm : meth.sig.returnType = (some .int) ∧ meth.locks = false) (ok_a0 : okr kM NM 12 a0 = true) (hf : F_X12_spreads_134 a0 l1 l2 l3 l4 l5 l6 σ = some o) (hb0 : ∀ (v : Int32 × Int32 × hSt), o = .inl v → ∀ (H : Heap) (locs : List Loc) (ls : Array Slot), Wd D ay kM NM ad (aN NM ad) s v.2.2 H locs → lv_has ls 8 [(0, .ref (ad a0)), (1, .int l1), (2, .int l2), (3, .int l3), (4, .int l4), (5, .int v.1), (6, .int v.2.1)] → W p l e (rmK 0 0) s m args below meth c H locs 0 0 (MQ below (cI D ay kM NM ad r0 σ0) args s 0 0 (aN NM ad)) (F0 m 6 ls [])) (hr : ∀ x, o = .inr (x) → x = (r0, σ0)) (w : Wd D ay kM NM ad (aN NM ad) s σ H locs) (hl : lv_has ls 8 [(0, .ref (ad a0)), (1, .int l1), (2, .int l2), (3, .int l3), (4, .int l4), (5, .int l5), (6, .int l6)]) : W p l e (rmK 0 0) s m args below meth c H locs 0 0 (MQ below (cI D ay kM NM ad r0 σ0) args s 0 0 (aN NM ad)) (F0 m 134 ls []) := by
  have k_a0 := okr_in ok_a0
  unfold F_X12_spreads_134 at hf
  obtain ⟨v1, e_v1, hf⟩ := cL_some hf
  refine lv_iinc (v := v1) (lv' := [(6, .int v1), (0, .ref (ad a0)), (1, .int l1), (2, .int l2), (3, .int l3), (4, .int l4), (5, .int l5)]) G.hx G.hb (dcs_get dec_X12_spreads_1 39 rfl) hl (k := 6) rfl (by rw [e_v1]; rfl) (by decide) rfl (fun ls hl => ?_)
  refine lv_goto (tgt := 6) G.hx G.hb (dcs_get dec_X12_spreads_2 0 rfl) (by decide) ?_
  exact hb0 _ (Option.some.inj hf).symm _ _ _ w (lv_sub hl [1, 2, 3, 4, 5, 6, 0] rfl)
set_option maxRecDepth 100000 in
set_option maxHeartbeats 4000000 in
theorem B_X12_spreads_71 {H : Heap} {locs : List Loc} {ls : Array Slot} {r0 : Int32} {σ0 : hSt} {o : (Int32 × Int32 × hSt) ⊕ (Int32 × hSt)} (a0 : Nat) (l1 : Int32) (l2 : Int32) (l3 : Int32) (l4 : Int32) (l5 : Int32) (l6 : Int32) (l7 : Int32) (s0 : Nat) (s1 : Int32) (s2 : Int32) (s3 : Int32) (σ : hSt) (G : Gx p m c cX12_spreads 8 s args RX12 D ay NM ad (aN NM ad)) (hm : meth.sig.returnType = (some .int) ∧ meth.locks = false) (ok_a0 : okr kM NM 12 a0 = true) (ok_s0 : okr kM NM 101 s0 = true) (hf : F_X12_spreads_71 a0 l1 l2 l3 l4 l5 l6 l7 s0 s1 s2 s3 σ = some o) (hb0 : ∀ (v : Int32 × Int32 × hSt), o = .inl v → ∀ (H : Heap) (locs : List Loc) (ls : Array Slot), Wd D ay kM NM ad (aN NM ad) s v.2.2 H locs → lv_has ls 8 [(0, .ref (ad a0)), (1, .int l1), (2, .int l2), (3, .int l3), (4, .int l4), (5, .int v.1), (6, .int v.2.1)] → W p l e (rmK 0 0) s m args below meth c H locs 0 0 (MQ below (cI D ay kM NM ad r0 σ0) args s 0 0 (aN NM ad)) (F0 m 6 ls [])) (hr : ∀ x, o = .inr (x) → x = (r0, σ0)) (w : Wd D ay kM NM ad (aN NM ad) s σ H locs) (hl : lv_has ls 8 [(0, .ref (ad a0)), (1, .int l1), (2, .int l2), (3, .int l3), (4, .int l4), (5, .int l5), (6, .int l6), (7, .int l7)]) : W p l e (rmK 0 0) s m args below meth c H locs 0 0 (MQ below (cI D ay kM NM ad r0 σ0) args s 0 0 (aN NM ad)) (F0 m 71 ls [.int s3, .int s2, .int s1, .ref (ad s0)]) := by
  have k_a0 := okr_in ok_a0
  have k_s0 := okr_in ok_s0
  unfold F_X12_spreads_71 at hf
  refine lv_ior G.hx G.hb (dcs_get dec_X12_spreads_1 1 rfl) ?_
  obtain ⟨h2, hf⟩ := cG_some hf
  obtain ⟨σ3, e_σ3, hf⟩ := cL_some hf
  refine r_iast G w k_s0.1 k_s0.2 h2 (dcs_get dec_X12_spreads_1 2 rfl) (fun H locs w => ?_)
  have w := Wd.nm e_σ3 w
  refine lv_aload_n G.hx G.hb (dcs_get dec_X12_spreads_1 3 rfl) rfl (lv_at hl 0 rfl) ?_
  obtain ⟨z4, e_z4, ok_z4, hf⟩ := cR_some hf
  have k_z4 := okr_in ok_z4
  refine r_getr (k := 54) cls12 fi_12_54.1 fi_12_54.2 q_1062 G w k_a0.1 k_a0.2 e_z4 (dcs_get dec_X12_spreads_1 4 rfl) ?_
  refine lv_iload G.hx G.hb (dcs_get dec_X12_spreads_1 5 rfl) (lv_at hl 7 rfl) ?_
  obtain ⟨h5, hf⟩ := cG_some hf
  refine r_iald G w k_z4.1 k_z4.2 h5 (dcs_get dec_X12_spreads_1 6 rfl) ?_
  refine lv_iconst (v := (1 : Int32)) G.hx G.hb (dcs_get dec_X12_spreads_1 7 rfl) (by decide) ?_
  refine lv_icmp_ne (tgt := 87) G.hx G.hb (dcs_get dec_X12_spreads_1 8 rfl) (by decide) (fun hc => ?_) (fun hc => ?_)
  · rw [if_neg hc] at hf
    refine lv_aload_n G.hx G.hb (dcs_get dec_X12_spreads_1 10 rfl) rfl (lv_at hl 0 rfl) ?_
    obtain ⟨z6, e_z6, ok_z6, hf⟩ := cR_some hf
    have k_z6 := okr_in ok_z6
    refine r_getr (k := 54) cls12 fi_12_54.1 fi_12_54.2 q_1062 G w k_a0.1 k_a0.2 e_z6 (dcs_get dec_X12_spreads_1 11 rfl) ?_
    refine lv_iload G.hx G.hb (dcs_get dec_X12_spreads_1 12 rfl) (lv_at hl 7 rfl) ?_
    refine lv_iconst (v := (1 : Int32)) G.hx G.hb (dcs_get dec_X12_spreads_1 13 rfl) (by decide) ?_
    obtain ⟨h7, hf⟩ := cG_some hf
    obtain ⟨σ8, e_σ8, hf⟩ := cL_some hf
    refine r_iast G w k_z6.1 k_z6.2 h7 (dcs_get dec_X12_spreads_1 14 rfl) (fun H locs w => ?_)
    have w := Wd.nm e_σ8 w
    refine lv_aload_n G.hx G.hb (dcs_get dec_X12_spreads_1 15 rfl) rfl (lv_at hl 0 rfl) ?_
    obtain ⟨z9, e_z9, ok_z9, hf⟩ := cR_some hf
    have k_z9 := okr_in ok_z9
    refine r_getr (k := 54) cls12 fi_12_54.1 fi_12_54.2 q_1062 G w k_a0.1 k_a0.2 e_z9 (dcs_get dec_X12_spreads_1 16 rfl) ?_
    refine lv_bipush (v := (24 : Int32)) G.hx G.hb (dcs_get dec_X12_spreads_1 17 rfl) (by decide) ?_
    refine lv_iload G.hx G.hb (dcs_get dec_X12_spreads_1 18 rfl) (lv_at hl 7 rfl) ?_
    refine lv_iadd G.hx G.hb (dcs_get dec_X12_spreads_1 19 rfl) ?_
    refine lv_aload_n G.hx G.hb (dcs_get dec_X12_spreads_1 20 rfl) rfl (lv_at hl 0 rfl) ?_
    obtain ⟨z10, e_z10, ok_z10, hf⟩ := cR_some hf
    have k_z10 := okr_in ok_z10
    refine r_getr (k := 54) cls12 fi_12_54.1 fi_12_54.2 q_1062 G w k_a0.1 k_a0.2 e_z10 (dcs_get dec_X12_spreads_1 21 rfl) ?_
    refine lv_bipush (v := (120 : Int32)) G.hx G.hb (dcs_get dec_X12_spreads_1 22 rfl) (by decide) ?_
    obtain ⟨h11, hf⟩ := cG_some hf
    refine r_iald G w k_z10.1 k_z10.2 h11 (dcs_get dec_X12_spreads_1 23 rfl) ?_
    obtain ⟨h12, hf⟩ := cG_some hf
    obtain ⟨σ13, e_σ13, hf⟩ := cL_some hf
    refine r_iast G w k_z9.1 k_z9.2 h12 (dcs_get dec_X12_spreads_1 24 rfl) (fun H locs w => ?_)
    have w := Wd.nm e_σ13 w
    refine lv_aload_n G.hx G.hb (dcs_get dec_X12_spreads_1 25 rfl) rfl (lv_at hl 0 rfl) ?_
    obtain ⟨z14, e_z14, ok_z14, hf⟩ := cR_some hf
    have k_z14 := okr_in ok_z14
    refine r_getr (k := 54) cls12 fi_12_54.1 fi_12_54.2 q_1062 G w k_a0.1 k_a0.2 e_z14 (dcs_get dec_X12_spreads_1 26 rfl) ?_
    refine lv_bipush (v := (48 : Int32)) G.hx G.hb (dcs_get dec_X12_spreads_1 27 rfl) (by decide) ?_
    refine lv_iload G.hx G.hb (dcs_get dec_X12_spreads_1 28 rfl) (lv_at hl 7 rfl) ?_
    refine lv_iadd G.hx G.hb (dcs_get dec_X12_spreads_1 29 rfl) ?_
    refine lv_iload_n G.hx G.hb (dcs_get dec_X12_spreads_1 30 rfl) rfl (lv_at hl 1 rfl) ?_
    obtain ⟨h15, hf⟩ := cG_some hf
    obtain ⟨σ16, e_σ16, hf⟩ := cL_some hf
    refine r_iast G w k_z14.1 k_z14.2 h15 (dcs_get dec_X12_spreads_1 31 rfl) (fun H locs w => ?_)
    have w := Wd.nm e_σ16 w
    refine lv_aload_n G.hx G.hb (dcs_get dec_X12_spreads_1 32 rfl) rfl (lv_at hl 0 rfl) ?_
    obtain ⟨z17, e_z17, ok_z17, hf⟩ := cR_some hf
    have k_z17 := okr_in ok_z17
    refine r_getr (k := 54) cls12 fi_12_54.1 fi_12_54.2 q_1062 G w k_a0.1 k_a0.2 e_z17 (dcs_get dec_X12_spreads_1 33 rfl) ?_
    refine lv_bipush (v := (72 : Int32)) G.hx G.hb (dcs_get dec_X12_spreads_1 34 rfl) (by decide) ?_
    refine lv_iload G.hx G.hb (dcs_get dec_X12_spreads_1 35 rfl) (lv_at hl 7 rfl) ?_
    refine lv_iadd G.hx G.hb (dcs_get dec_X12_spreads_1 36 rfl) ?_
    refine lv_iload_n G.hx G.hb (dcs_get dec_X12_spreads_1 37 rfl) rfl (lv_at hl 3 rfl) ?_
    obtain ⟨h18, hf⟩ := cG_some hf
    obtain ⟨σ19, e_σ19, hf⟩ := cL_some hf
    refine r_iast G w k_z17.1 k_z17.2 h18 (dcs_get dec_X12_spreads_1 38 rfl) (fun H locs w => ?_)
    have w := Wd.nm e_σ19 w
    exact B_X12_spreads_134 a0 l1 l2 l3 l4 l5 l6 σ19 G hm ok_a0 hf hb0 hr w (lv_sub hl [0, 1, 2, 3, 4, 5, 6] rfl)
  · rw [if_pos hc] at hf
    refine lv_goto (tgt := 134) G.hx G.hb (dcs_get dec_X12_spreads_1 9 rfl) (by decide) ?_
    exact B_X12_spreads_134 a0 l1 l2 l3 l4 l5 l6 σ3 G hm ok_a0 hf hb0 hr w (lv_sub hl [0, 1, 2, 3, 4, 5, 6] rfl)
set_option maxRecDepth 100000 in
set_option maxHeartbeats 4000000 in
theorem B_X12_spreads_6b {H : Heap} {locs : List Loc} {ls : Array Slot} {r0 : Int32} {σ0 : hSt} {o : (Int32 × Int32 × hSt) ⊕ (Int32 × hSt)} (a0 : Nat) (l1 : Int32) (l2 : Int32) (l3 : Int32) (l4 : Int32) (l5 : Int32) (l6 : Int32) (σ : hSt) (G : Gx p m c cX12_spreads 8 s args RX12 D ay NM ad (aN NM ad)) (hm : meth.sig.returnType = (some .int) ∧ meth.locks = false) (ok_a0 : okr kM NM 12 a0 = true) (hf : F_X12_spreads_6b a0 l1 l2 l3 l4 l5 l6 σ = some o) (hb0 : ∀ (v : Int32 × Int32 × hSt), o = .inl v → ∀ (H : Heap) (locs : List Loc) (ls : Array Slot), Wd D ay kM NM ad (aN NM ad) s v.2.2 H locs → lv_has ls 8 [(0, .ref (ad a0)), (1, .int l1), (2, .int l2), (3, .int l3), (4, .int l4), (5, .int v.1), (6, .int v.2.1)] → W p l e (rmK 0 0) s m args below meth c H locs 0 0 (MQ below (cI D ay kM NM ad r0 σ0) args s 0 0 (aN NM ad)) (F0 m 6 ls [])) (hr : ∀ x, o = .inr (x) → x = (r0, σ0)) (w : Wd D ay kM NM ad (aN NM ad) s σ H locs) (hl : lv_has ls 8 [(0, .ref (ad a0)), (1, .int l1), (2, .int l2), (3, .int l3), (4, .int l4), (5, .int l5), (6, .int l6)]) : W p l e (rmK 0 0) s m args below meth c H locs 0 0 (MQ below (cI D ay kM NM ad r0 σ0) args s 0 0 (aN NM ad)) (F0 m 6 ls []) := by
  have k_a0 := okr_in ok_a0
  unfold F_X12_spreads_6b at hf
  refine lv_iload G.hx G.hb (dcs_get dec_X12_spreads_0 4 rfl) (lv_at hl 6 rfl) ?_
  refine lv_aload_n G.hx G.hb (dcs_get dec_X12_spreads_0 5 rfl) rfl (lv_at hl 0 rfl) ?_
  obtain ⟨z20, e_z20, ok_z20, hf⟩ := cR_some hf
  have k_z20 := okr_in ok_z20
  refine r_getr (k := 24) cls12 fi_12_24.1 fi_12_24.2 q_1032 G w k_a0.1 k_a0.2 e_z20 (dcs_get dec_X12_spreads_0 6 rfl) ?_
  refine lv_aload_n G.hx G.hb (dcs_get dec_X12_spreads_0 7 rfl) rfl (lv_at hl 0 rfl) ?_
  refine r_geti (k := 18) cls12 fi_12_18.1 fi_12_18.2 q_1026 G w k_a0.1 k_a0.2 (dcs_get dec_X12_spreads_0 8 rfl) ?_
  obtain ⟨h21, hf⟩ := cG_some hf
  refine r_iald G w k_z20.1 k_z20.2 h21 (dcs_get dec_X12_spreads_0 9 rfl) ?_
  refine lv_icmp_ge (tgt := 140) G.hx G.hb (dcs_get dec_X12_spreads_0 10 rfl) (by decide) (fun hc => ?_) (fun hc => ?_)
  · rw [if_pos hc] at hf
    refine lv_aload_n G.hx G.hb (dcs_get dec_X12_spreads_2 1 rfl) rfl (lv_at hl 0 rfl) ?_
    obtain ⟨z22, e_z22, ok_z22, hf⟩ := cR_some hf
    have k_z22 := okr_in ok_z22
    refine r_getr (k := 54) cls12 fi_12_54.1 fi_12_54.2 q_1062 G w k_a0.1 k_a0.2 e_z22 (dcs_get dec_X12_spreads_2 2 rfl) ?_
    refine lv_bipush (v := (122 : Int32)) G.hx G.hb (dcs_get dec_X12_spreads_2 3 rfl) (by decide) ?_
    refine lv_dup2_11 G.hx G.hb (dcs_get dec_X12_spreads_2 4 rfl) rfl rfl ?_
    obtain ⟨h23, hf⟩ := cG_some hf
    refine r_iald G w k_z22.1 k_z22.2 h23 (dcs_get dec_X12_spreads_2 5 rfl) ?_
    refine lv_iconst (v := (1 : Int32)) G.hx G.hb (dcs_get dec_X12_spreads_2 6 rfl) (by decide) ?_
    refine lv_iadd G.hx G.hb (dcs_get dec_X12_spreads_2 7 rfl) ?_
    obtain ⟨h24, hf⟩ := cG_some hf
    obtain ⟨σ25, e_σ25, hf⟩ := cL_some hf
    refine r_iast G w k_z22.1 k_z22.2 h24 (dcs_get dec_X12_spreads_2 8 rfl) (fun H locs w => ?_)
    have w := Wd.nm e_σ25 w
    refine lv_iload G.hx G.hb (dcs_get dec_X12_spreads_2 9 rfl) (lv_at hl 5 rfl) ?_
    have e9 := hr _ (Option.some.inj hf).symm
    exact r_iret G w hm (congrArg Prod.fst e9) (congrArg Prod.snd e9) (dcs_get dec_X12_spreads_2 10 rfl)
  · rw [if_neg hc] at hf
    refine lv_iload G.hx G.hb (dcs_get dec_X12_spreads_0 11 rfl) (lv_at hl 4 rfl) ?_
    refine lv_iload G.hx G.hb (dcs_get dec_X12_spreads_0 12 rfl) (lv_at hl 6 rfl) ?_
    refine lv_ishr G.hx G.hb (dcs_get dec_X12_spreads_0 13 rfl) ?_
    refine lv_iconst (v := (1 : Int32)) G.hx G.hb (dcs_get dec_X12_spreads_0 14 rfl) (by decide) ?_
    refine lv_iand G.hx G.hb (dcs_get dec_X12_spreads_0 15 rfl) ?_
    refine lv_if_eq (tgt := 134) G.hx G.hb (dcs_get dec_X12_spreads_0 16 rfl) (by decide) (fun hc => ?_) (fun hc => ?_)
    · rw [if_pos hc] at hf
      exact B_X12_spreads_134 a0 l1 l2 l3 l4 l5 l6 σ G hm ok_a0 hf hb0 hr w (lv_sub hl [0, 1, 2, 3, 4, 5, 6] rfl)
    · rw [if_neg hc] at hf
      refine lv_iload G.hx G.hb (dcs_get dec_X12_spreads_0 17 rfl) (lv_at hl 6 rfl) ?_
      refine lv_iload_n G.hx G.hb (dcs_get dec_X12_spreads_0 18 rfl) rfl (lv_at hl 1 rfl) ?_
      refine lv_icmp_ne (tgt := 39) G.hx G.hb (dcs_get dec_X12_spreads_0 19 rfl) (by decide) (fun hc => ?_) (fun hc => ?_)
      · rw [if_neg hc] at hf
        obtain ⟨v26, e_v26, hf⟩ := cL_some hf
        refine lv_iinc (v := v26) (lv' := [(5, .int v26), (0, .ref (ad a0)), (1, .int l1), (2, .int l2), (3, .int l3), (4, .int l4), (6, .int l6)]) G.hx G.hb (dcs_get dec_X12_spreads_0 21 rfl) hl (k := 5) rfl (by rw [e_v26]; rfl) (by decide) rfl (fun ls hl => ?_)
        refine lv_iconst (v := (4 : Int32)) G.hx G.hb (dcs_get dec_X12_spreads_0 22 rfl) (by decide) ?_
        refine lv_iload G.hx G.hb (dcs_get dec_X12_spreads_0 23 rfl) (lv_at hl 6 rfl) ?_
        refine lv_imul G.hx G.hb (dcs_get dec_X12_spreads_0 24 rfl) ?_
        refine lv_iload_n G.hx G.hb (dcs_get dec_X12_spreads_0 25 rfl) rfl (lv_at hl 3 rfl) ?_
        refine lv_iadd G.hx G.hb (dcs_get dec_X12_spreads_0 26 rfl) ?_
        obtain ⟨v27, e_v27, hf⟩ := cL_some hf
        refine r_topi e_v27 ?_
        refine lv_istore (lv' := [(7, .int v27), (5, .int v26), (0, .ref (ad a0)), (1, .int l1), (2, .int l2), (3, .int l3), (4, .int l4), (6, .int l6)]) G.hx G.hb (dcs_get dec_X12_spreads_0 27 rfl) hl (by decide) rfl (fun ls hl => ?_)
        refine lv_aload_n G.hx G.hb (dcs_get dec_X12_spreads_0 28 rfl) rfl (lv_at hl 2 rfl) ?_
        obtain ⟨z28, e_z28, ok_z28, hf⟩ := cR_some hf
        have k_z28 := okr_in ok_z28
        refine r_getr (k := 54) cls12 fi_12_54.1 fi_12_54.2 q_1062 G w k_a0.1 k_a0.2 e_z28 (dcs_get dec_X12_spreads_0 29 rfl) ?_
        refine lv_bipush (v := (96 : Int32)) G.hx G.hb (dcs_get dec_X12_spreads_0 30 rfl) (by decide) ?_
        refine lv_iload G.hx G.hb (dcs_get dec_X12_spreads_0 31 rfl) (lv_at hl 0 rfl) ?_
        refine lv_iadd G.hx G.hb (dcs_get dec_X12_spreads_0 32 rfl) ?_
        obtain ⟨v29, e_v29, hf⟩ := cL_some hf
        refine r_topi e_v29 ?_
        refine lv_dup2_11 G.hx G.hb (dcs_get dec_X12_spreads_0 33 rfl) rfl rfl ?_
        obtain ⟨h30, hf⟩ := cG_some hf
        refine r_iald G w k_z28.1 k_z28.2 h30 (dcs_get dec_X12_spreads_0 34 rfl) ?_
        refine lv_iload_n G.hx G.hb (dcs_get dec_X12_spreads_0 35 rfl) rfl (lv_at hl 5 rfl) ?_
        refine lv_iconst (v := (1 : Int32)) G.hx G.hb (dcs_get dec_X12_spreads_0 36 rfl) (by decide) ?_
        refine lv_icmp_ne (tgt := 70) G.hx G.hb (dcs_get dec_X12_spreads_0 37 rfl) (by decide) (fun hc => ?_) (fun hc => ?_)
        · rw [if_neg hc] at hf
          refine lv_iconst (v := (1 : Int32)) G.hx G.hb (dcs_get dec_X12_spreads_1 0 rfl) (by decide) ?_
          exact B_X12_spreads_71 a0 l1 l2 l3 l4 v26 l6 v27 z28 v29 (σ.1 z28 v29.toNatClampNeg) (1 : Int32) σ G hm ok_a0 ok_z28 hf hb0 hr w (lv_sub hl [2, 3, 4, 5, 6, 1, 7, 0] rfl)
        · rw [if_pos hc] at hf
          refine lv_iconst (v := (2 : Int32)) G.hx G.hb (dcs_get dec_X12_spreads_0 38 rfl) (by decide) ?_
          refine lv_goto (tgt := 71) G.hx G.hb (dcs_get dec_X12_spreads_0 39 rfl) (by decide) ?_
          exact B_X12_spreads_71 a0 l1 l2 l3 l4 v26 l6 v27 z28 v29 (σ.1 z28 v29.toNatClampNeg) (2 : Int32) σ G hm ok_a0 ok_z28 hf hb0 hr w (lv_sub hl [2, 3, 4, 5, 6, 1, 7, 0] rfl)
      · rw [if_pos hc] at hf
        refine lv_goto (tgt := 134) G.hx G.hb (dcs_get dec_X12_spreads_0 20 rfl) (by decide) ?_
        exact B_X12_spreads_134 a0 l1 l2 l3 l4 l5 l6 σ G hm ok_a0 hf hb0 hr w (lv_sub hl [0, 1, 2, 3, 4, 5, 6] rfl)
set_option maxRecDepth 100000 in
set_option maxHeartbeats 4000000 in
theorem H_X12_spreads_6 {r0 : Int32} {σ0 : hSt} (a0 : Nat) (l1 : Int32) (l2 : Int32) (l3 : Int32) (l4 : Int32) (G : Gx p m c cX12_spreads 8 s args RX12 D ay NM ad (aN NM ad)) (hm : meth.sig.returnType = (some .int) ∧ meth.locks = false) (ok_a0 : okr kM NM 12 a0 = true)  : ∀ (k : Nat) (v : Int32 × Int32 × hSt), lp (S_X12_spreads_6 a0 l1 l2 l3 l4) k v = some (r0, σ0) → ∀ (H : Heap) (locs : List Loc) (ls : Array Slot), Wd D ay kM NM ad (aN NM ad) s v.2.2 H locs → lv_has ls 8 [(0, .ref (ad a0)), (1, .int l1), (2, .int l2), (3, .int l3), (4, .int l4), (5, .int v.1), (6, .int v.2.1)] → W p l e (rmK 0 0) s m args below meth c H locs 0 0 (MQ below (cI D ay kM NM ad r0 σ0) args s 0 0 (aN NM ad)) (F0 m 6 ls []) := by
  intro k
  induction k with
  | zero => intro v hf; cases hf
  | succ k ih =>
    intro v hf H locs ls w hl
    obtain ⟨o1, h1, h2, h3⟩ := lp_some hf
    exact B_X12_spreads_6b a0 l1 l2 l3 l4 v.1 v.2.1 v.2.2 G hm ok_a0 h1  (fun v' e => ih v' (h2 v' e)) (fun x e => h3 x e) w hl
set_option maxRecDepth 100000 in
set_option maxHeartbeats 4000000 in
theorem B_X12_spreads_6 {H : Heap} {locs : List Loc} {ls : Array Slot} {r0 : Int32} {σ0 : hSt} (a0 : Nat) (l1 : Int32) (l2 : Int32) (l3 : Int32) (l4 : Int32) (l5 : Int32) (l6 : Int32) (σ : hSt) (G : Gx p m c cX12_spreads 8 s args RX12 D ay NM ad (aN NM ad)) (hm : meth.sig.returnType = (some .int) ∧ meth.locks = false) (ok_a0 : okr kM NM 12 a0 = true) (hf : F_X12_spreads_6 a0 l1 l2 l3 l4 l5 l6 σ = some (r0, σ0))  (w : Wd D ay kM NM ad (aN NM ad) s σ H locs) (hl : lv_has ls 8 [(0, .ref (ad a0)), (1, .int l1), (2, .int l2), (3, .int l3), (4, .int l4), (5, .int l5), (6, .int l6)]) : W p l e (rmK 0 0) s m args below meth c H locs 0 0 (MQ below (cI D ay kM NM ad r0 σ0) args s 0 0 (aN NM ad)) (F0 m 6 ls []) := by
  unfold F_X12_spreads_6 at hf
  exact H_X12_spreads_6 a0 l1 l2 l3 l4  G hm ok_a0  fuel (l5, l6, σ) hf _ _ _ w hl
set_option maxRecDepth 100000 in
set_option maxHeartbeats 4000000 in
theorem B_X12_spreads_0 {H : Heap} {locs : List Loc} {ls : Array Slot} {r0 : Int32} {σ0 : hSt} (a0 : Nat) (l1 : Int32) (l2 : Int32) (l3 : Int32) (l4 : Int32) (σ : hSt) (G : Gx p m c cX12_spreads 8 s args RX12 D ay NM ad (aN NM ad)) (hm : meth.sig.returnType = (some .int) ∧ meth.locks = false) (ok_a0 : okr kM NM 12 a0 = true) (hf : F_X12_spreads a0 l1 l2 l3 l4 σ = some (r0, σ0))  (w : Wd D ay kM NM ad (aN NM ad) s σ H locs) (hl : lv_has ls 8 [(0, .ref (ad a0)), (1, .int l1), (2, .int l2), (3, .int l3), (4, .int l4)]) : W p l e (rmK 0 0) s m args below meth c H locs 0 0 (MQ below (cI D ay kM NM ad r0 σ0) args s 0 0 (aN NM ad)) (F0 m 0 ls []) := by
  have k_a0 := okr_in ok_a0
  unfold F_X12_spreads at hf
  refine lv_iconst (v := (0 : Int32)) G.hx G.hb (dcs_get dec_X12_spreads_0 0 rfl) (by decide) ?_
  refine lv_istore (lv' := [(5, .int (0 : Int32)), (0, .ref (ad a0)), (1, .int l1), (2, .int l2), (3, .int l3), (4, .int l4)]) G.hx G.hb (dcs_get dec_X12_spreads_0 1 rfl) hl (by decide) rfl (fun ls hl => ?_)
  refine lv_iconst (v := (0 : Int32)) G.hx G.hb (dcs_get dec_X12_spreads_0 2 rfl) (by decide) ?_
  refine lv_istore (lv' := [(6, .int (0 : Int32)), (5, .int (0 : Int32)), (0, .ref (ad a0)), (1, .int l1), (2, .int l2), (3, .int l3), (4, .int l4)]) G.hx G.hb (dcs_get dec_X12_spreads_0 3 rfl) hl (by decide) rfl (fun ls hl => ?_)
  exact B_X12_spreads_6 a0 l1 l2 l3 l4 (0 : Int32) (0 : Int32) σ G hm ok_a0 hf  w (lv_sub hl [2, 3, 4, 5, 6, 1, 0] rfl)
end
set_option maxRecDepth 100000 in
set_option maxHeartbeats 4000000 in
theorem C_X12_spreads {l : Launch} {D : va_G} {ay : Nat → ClassId} {ad : Nat → Nat} (hi : hInj NM ad) (a0 : Nat) (l1 : Int32) (l2 : Int32) (l3 : Int32) (l4 : Int32) (σ : hSt) {r0 : Int32} {σ0 : hSt} (hf : F_X12_spreads a0 l1 l2 l3 l4 σ = some (r0, σ0)) (ok_a0 : okr kM NM 12 a0 = true) : hM l D ay kM NM ad yX12_spreads cX12_spreads 8 ((some .int)) (rmK 0 0) [.ref (ad a0), .int l1, .int l2, .int l3, .int l4] σ (cI D ay kM NM ad r0 σ0) := by
  refine hM_in (by decide) hi (Nat.le_of_ble_eq_true rfl) ?_
  intro p e s m below meth c G hm w ls hl
  exact B_X12_spreads_0 a0 l1 l2 l3 l4 σ G hm ok_a0 hf w (lv_sub hl [0, 1, 2, 3, 4] rfl)

/-! HillDrumsModel.isAnswer(III)Z -/
def DL_X12_isAnswer_0 : List (Nat × Instr × Nat) := [(0, .aload_n 0, 1), (1, .getfield 348, 3), (4, .ifCond .ne 5, 3), (7, .iconst 0, 1), (8, .ireturn, 1), (9, .iconst 0, 1), (10, .istore 4, 2), (12, .iload 4, 2), (14, .aload_n 0, 1), (15, .getfield 128, 3), (18, .bipush 121, 2), (20, .iaload, 1), (21, .if_icmp .ge 118, 3), (24, .sipush 130, 3), (27, .iconst 4, 1), (28, .iload 4, 2), (30, .imul, 1), (31, .iadd, 1), (32, .istore 5, 2), (34, .aload_n 0, 1), (35, .getfield 128, 3), (38, .iload 5, 2), (40, .iaload, 1), (41, .iload_n 1, 1), (42, .if_icmp .eq 91, 3), (45, .aload_n 0, 1), (46, .getfield 128, 3), (49, .iload 5, 2), (51, .iconst 3, 1), (52, .iadd, 1), (53, .iaload, 1), (54, .iload_n 1, 1), (55, .ishr, 1), (56, .iconst 1, 1), (57, .iand, 1), (58, .ifCond .ne 6, 3), (61, .goto 72, 3), (64, .aload_n 0, 1), (65, .getfield 128, 3), (68, .iload 5, 2)]
set_option maxRecDepth 100000 in
theorem dec_X12_isAnswer_0 : dcs cX12_isAnswer DL_X12_isAnswer_0 = true := by decide +kernel
def DL_X12_isAnswer_1 : List (Nat × Instr × Nat) := [(70, .iconst 1, 1), (71, .iadd, 1), (72, .iaload, 1), (73, .iload_n 2, 1), (74, .if_icmp .ne 7, 3), (77, .iconst 1, 1), (78, .goto 4, 3), (81, .iconst 0, 1), (82, .istore 6, 2), (84, .aload_n 0, 1), (85, .getfield 348, 3), (88, .iconst 2, 1), (89, .if_icmp .eq 42, 3), (92, .aload_n 0, 1), (93, .getfield 348, 3), (96, .iconst 1, 1), (97, .if_icmp .ne 8, 3), (100, .iload 6, 2), (102, .ifCond .ne 29, 3), (105, .aload_n 0, 1), (106, .getfield 348, 3), (109, .iconst 3, 1), (110, .if_icmp .ne 23, 3), (113, .iload 6, 2), (115, .ifCond .eq 18, 3), (118, .aload_n 0, 1), (119, .getfield 128, 3), (122, .iload 5, 2), (124, .iconst 2, 1), (125, .iadd, 1), (126, .iaload, 1), (127, .iload_n 3, 1), (128, .if_icmp .eq 5, 3), (131, .iconst 1, 1), (132, .ireturn, 1), (133, .iinc 4 1, 3), (136, .goto (-124), 3), (139, .iconst 0, 1), (140, .ireturn, 1)]
set_option maxRecDepth 100000 in
theorem dec_X12_isAnswer_1 : dcs cX12_isAnswer DL_X12_isAnswer_1 = true := by decide +kernel
theorem lb_X12_isAnswer : lkB yX12_isAnswer cX12_isAnswer 7 ((some .boolean)) 3 := ⟨q_1399, q_14, ⟨by decide, by decide⟩, by decide +kernel⟩
theorem lv_X12_isAnswer : lkV yX12_isAnswer := ⟨q_1398, qs_102⟩
def F_X12_isAnswer_133 (a0 : Nat) (l1 : Int32) (l2 : Int32) (l3 : Int32) (l4 : Int32) (σ : hSt) : Option ((Int32) ⊕ (Int32)) :=
cL (l4 + (1 : Int32)) fun v1 =>
some (.inl (v1))
def F_X12_isAnswer_131  (σ : hSt) : Option (Int32) :=
some ((1 : Int32))
def F_X12_isAnswer_105 (a0 : Nat) (l1 : Int32) (l2 : Int32) (l3 : Int32) (l4 : Int32) (l5 : Int32) (l6 : Int32) (σ : hSt) : Option ((Int32) ⊕ (Int32)) :=
if (σ.1 a0 55) = (3 : Int32) then (
if l6 = 0 then (
F_X12_isAnswer_133 a0 l1 l2 l3 l4 σ) else (
cR (σ.2.2 a0 54) (okr kM NM 101) fun z2 =>
cG (inb (l5 + (2 : Int32)) (kM z2).2) <|
if (σ.1 z2 (l5 + (2 : Int32)).toNatClampNeg) = l3 then (
F_X12_isAnswer_133 a0 l1 l2 l3 l4 σ) else (
(F_X12_isAnswer_131  σ).map (fun x => .inr (x))))) else (
F_X12_isAnswer_133 a0 l1 l2 l3 l4 σ)
def F_X12_isAnswer_82 (a0 : Nat) (l1 : Int32) (l2 : Int32) (l3 : Int32) (l4 : Int32) (l5 : Int32) (s0 : Int32) (σ : hSt) : Option ((Int32) ⊕ (Int32)) :=
if (σ.1 a0 55) = (2 : Int32) then (
(F_X12_isAnswer_131  σ).map (fun x => .inr (x))) else (
if (σ.1 a0 55) = (1 : Int32) then (
if s0 = 0 then (
F_X12_isAnswer_105 a0 l1 l2 l3 l4 l5 s0 σ) else (
(F_X12_isAnswer_131  σ).map (fun x => .inr (x)))) else (
F_X12_isAnswer_105 a0 l1 l2 l3 l4 l5 s0 σ))
def F_X12_isAnswer_12b (a0 : Nat) (l1 : Int32) (l2 : Int32) (l3 : Int32) (l4 : Int32) (σ : hSt) : Option ((Int32) ⊕ (Int32)) :=
cR (σ.2.2 a0 54) (okr kM NM 101) fun z4 =>
cG (inb (121 : Int32) (kM z4).2) <|
if (σ.1 z4 (121 : Int32).toNatClampNeg) ≤ l4 then (
some (.inr ((0 : Int32)))) else (
cL ((130 : Int32) + ((4 : Int32) * l4)) fun v6 =>
cR (σ.2.2 a0 54) (okr kM NM 101) fun z7 =>
cG (inb v6 (kM z7).2) <|
if (σ.1 z7 v6.toNatClampNeg) = l1 then (
F_X12_isAnswer_133 a0 l1 l2 l3 l4 σ) else (
cR (σ.2.2 a0 54) (okr kM NM 101) fun z9 =>
cG (inb (v6 + (3 : Int32)) (kM z9).2) <|
if (((σ.1 z9 (v6 + (3 : Int32)).toNatClampNeg) >>> (l1 &&& 31)) &&& (1 : Int32)) = 0 then (
F_X12_isAnswer_133 a0 l1 l2 l3 l4 σ) else (
cR (σ.2.2 a0 54) (okr kM NM 101) fun z11 =>
cG (inb (v6 + (1 : Int32)) (kM z11).2) <|
if (σ.1 z11 (v6 + (1 : Int32)).toNatClampNeg) = l2 then (
F_X12_isAnswer_82 a0 l1 l2 l3 l4 v6 (1 : Int32) σ) else (
F_X12_isAnswer_82 a0 l1 l2 l3 l4 v6 (0 : Int32) σ))))
def S_X12_isAnswer_12 (a0 : Nat) (l1 : Int32) (l2 : Int32) (l3 : Int32) (σ : hSt) (v : Int32) : Option ((Int32) ⊕ (Int32)) := F_X12_isAnswer_12b a0 l1 l2 l3 v σ
def F_X12_isAnswer_12 (a0 : Nat) (l1 : Int32) (l2 : Int32) (l3 : Int32) (l4 : Int32) (σ : hSt) : Option (Int32) := lp (S_X12_isAnswer_12 a0 l1 l2 l3 σ) fuel (l4)
def F_X12_isAnswer (a0 : Nat) (l1 : Int32) (l2 : Int32) (l3 : Int32) (σ : hSt) : Option (Int32) :=
if (σ.1 a0 55) = 0 then (
some ((0 : Int32))) else (
F_X12_isAnswer_12 a0 l1 l2 l3 (0 : Int32) σ)
section
variable {p : Program} {l : Launch} {e : Env} {s : State} {m : MethodId} {args : Array Value} {below : List Frame} {meth : Method} {c : Code} {D : va_G} {ay : Nat → ClassId} {ad : Nat → Nat}
set_option maxRecDepth 100000 in
set_option maxHeartbeats 4000000 in
theorem B_X12_isAnswer_133 {H : Heap} {locs : List Loc} {ls : Array Slot} {r0 : Int32} {o : (Int32) ⊕ (Int32)} (a0 : Nat) (l1 : Int32) (l2 : Int32) (l3 : Int32) (l4 : Int32) (σ : hSt) (G : Gx p m c cX12_isAnswer 7 s args RX12 D ay NM ad (aN NM ad)) (hm : meth.sig.returnType = (some .boolean) ∧ meth.locks = false) (ok_a0 : okr kM NM 12 a0 = true) (hf : F_X12_isAnswer_133 a0 l1 l2 l3 l4 σ = some o) (hb0 : ∀ (v : Int32), o = .inl v → ∀ (H : Heap) (locs : List Loc) (ls : Array Slot), Wd D ay kM NM ad (aN NM ad) s σ H locs → lv_has ls 7 [(0, .ref (ad a0)), (1, .int l1), (2, .int l2), (3, .int l3), (4, .int v)] → W p l e (rmK 0 0) s m args below meth c H locs 0 0 (MQ below (cI D ay kM NM ad r0 σ) args s 0 0 (aN NM ad)) (F0 m 12 ls [])) (hr : ∀ x, o = .inr (x) → x = r0) (w : Wd D ay kM NM ad (aN NM ad) s σ H locs) (hl : lv_has ls 7 [(0, .ref (ad a0)), (1, .int l1), (2, .int l2), (3, .int l3), (4, .int l4)]) : W p l e (rmK 0 0) s m args below meth c H locs 0 0 (MQ below (cI D ay kM NM ad r0 σ) args s 0 0 (aN NM ad)) (F0 m 133 ls []) := by
  have k_a0 := okr_in ok_a0
  unfold F_X12_isAnswer_133 at hf
  obtain ⟨v1, e_v1, hf⟩ := cL_some hf
  refine lv_iinc (v := v1) (lv' := [(4, .int v1), (0, .ref (ad a0)), (1, .int l1), (2, .int l2), (3, .int l3)]) G.hx G.hb (dcs_get dec_X12_isAnswer_1 35 rfl) hl (k := 4) rfl (by rw [e_v1]; rfl) (by decide) rfl (fun ls hl => ?_)
  refine lv_goto (tgt := 12) G.hx G.hb (dcs_get dec_X12_isAnswer_1 36 rfl) (by decide) ?_
  exact hb0 _ (Option.some.inj hf).symm _ _ _ w (lv_sub hl [1, 2, 3, 4, 0] rfl)
set_option maxRecDepth 100000 in
set_option maxHeartbeats 4000000 in
theorem B_X12_isAnswer_131 {H : Heap} {locs : List Loc} {ls : Array Slot} {r0 : Int32}  (σ : hSt) (G : Gx p m c cX12_isAnswer 7 s args RX12 D ay NM ad (aN NM ad)) (hm : meth.sig.returnType = (some .boolean) ∧ meth.locks = false)  (hf : F_X12_isAnswer_131  σ = some r0)  (w : Wd D ay kM NM ad (aN NM ad) s σ H locs) (hl : lv_has ls 7 []) : W p l e (rmK 0 0) s m args below meth c H locs 0 0 (MQ below (cI D ay kM NM ad r0 σ) args s 0 0 (aN NM ad)) (F0 m 131 ls []) := by
  unfold F_X12_isAnswer_131 at hf
  refine lv_iconst (v := (1 : Int32)) G.hx G.hb (dcs_get dec_X12_isAnswer_1 33 rfl) (by decide) ?_
  have e9 := Option.some.inj hf
  exact r_zret rfl G w hm e9 rfl (dcs_get dec_X12_isAnswer_1 34 rfl)
set_option maxRecDepth 100000 in
set_option maxHeartbeats 4000000 in
theorem B_X12_isAnswer_105 {H : Heap} {locs : List Loc} {ls : Array Slot} {r0 : Int32} {o : (Int32) ⊕ (Int32)} (a0 : Nat) (l1 : Int32) (l2 : Int32) (l3 : Int32) (l4 : Int32) (l5 : Int32) (l6 : Int32) (σ : hSt) (G : Gx p m c cX12_isAnswer 7 s args RX12 D ay NM ad (aN NM ad)) (hm : meth.sig.returnType = (some .boolean) ∧ meth.locks = false) (ok_a0 : okr kM NM 12 a0 = true) (hf : F_X12_isAnswer_105 a0 l1 l2 l3 l4 l5 l6 σ = some o) (hb0 : ∀ (v : Int32), o = .inl v → ∀ (H : Heap) (locs : List Loc) (ls : Array Slot), Wd D ay kM NM ad (aN NM ad) s σ H locs → lv_has ls 7 [(0, .ref (ad a0)), (1, .int l1), (2, .int l2), (3, .int l3), (4, .int v)] → W p l e (rmK 0 0) s m args below meth c H locs 0 0 (MQ below (cI D ay kM NM ad r0 σ) args s 0 0 (aN NM ad)) (F0 m 12 ls [])) (hr : ∀ x, o = .inr (x) → x = r0) (w : Wd D ay kM NM ad (aN NM ad) s σ H locs) (hl : lv_has ls 7 [(0, .ref (ad a0)), (1, .int l1), (2, .int l2), (3, .int l3), (4, .int l4), (5, .int l5), (6, .int l6)]) : W p l e (rmK 0 0) s m args below meth c H locs 0 0 (MQ below (cI D ay kM NM ad r0 σ) args s 0 0 (aN NM ad)) (F0 m 105 ls []) := by
  have k_a0 := okr_in ok_a0
  unfold F_X12_isAnswer_105 at hf
  refine lv_aload_n G.hx G.hb (dcs_get dec_X12_isAnswer_1 19 rfl) rfl (lv_at hl 0 rfl) ?_
  refine r_geti (k := 55) cls12 fi_12_55.1 fi_12_55.2 q_1063 G w k_a0.1 k_a0.2 (dcs_get dec_X12_isAnswer_1 20 rfl) ?_
  refine lv_iconst (v := (3 : Int32)) G.hx G.hb (dcs_get dec_X12_isAnswer_1 21 rfl) (by decide) ?_
  refine lv_icmp_ne (tgt := 133) G.hx G.hb (dcs_get dec_X12_isAnswer_1 22 rfl) (by decide) (fun hc => ?_) (fun hc => ?_)
  · rw [if_neg hc] at hf
    exact B_X12_isAnswer_133 a0 l1 l2 l3 l4 σ G hm ok_a0 hf hb0 hr w (lv_sub hl [0, 1, 2, 3, 4] rfl)
  · rw [if_pos hc] at hf
    refine lv_iload G.hx G.hb (dcs_get dec_X12_isAnswer_1 23 rfl) (lv_at hl 6 rfl) ?_
    refine lv_if_eq (tgt := 133) G.hx G.hb (dcs_get dec_X12_isAnswer_1 24 rfl) (by decide) (fun hc => ?_) (fun hc => ?_)
    · rw [if_pos hc] at hf
      exact B_X12_isAnswer_133 a0 l1 l2 l3 l4 σ G hm ok_a0 hf hb0 hr w (lv_sub hl [0, 1, 2, 3, 4] rfl)
    · rw [if_neg hc] at hf
      refine lv_aload_n G.hx G.hb (dcs_get dec_X12_isAnswer_1 25 rfl) rfl (lv_at hl 0 rfl) ?_
      obtain ⟨z2, e_z2, ok_z2, hf⟩ := cR_some hf
      have k_z2 := okr_in ok_z2
      refine r_getr (k := 54) cls12 fi_12_54.1 fi_12_54.2 q_1062 G w k_a0.1 k_a0.2 e_z2 (dcs_get dec_X12_isAnswer_1 26 rfl) ?_
      refine lv_iload G.hx G.hb (dcs_get dec_X12_isAnswer_1 27 rfl) (lv_at hl 5 rfl) ?_
      refine lv_iconst (v := (2 : Int32)) G.hx G.hb (dcs_get dec_X12_isAnswer_1 28 rfl) (by decide) ?_
      refine lv_iadd G.hx G.hb (dcs_get dec_X12_isAnswer_1 29 rfl) ?_
      obtain ⟨h3, hf⟩ := cG_some hf
      refine r_iald G w k_z2.1 k_z2.2 h3 (dcs_get dec_X12_isAnswer_1 30 rfl) ?_
      refine lv_iload_n G.hx G.hb (dcs_get dec_X12_isAnswer_1 31 rfl) rfl (lv_at hl 3 rfl) ?_
      refine lv_icmp_eq (tgt := 133) G.hx G.hb (dcs_get dec_X12_isAnswer_1 32 rfl) (by decide) (fun hc => ?_) (fun hc => ?_)
      · rw [if_pos hc] at hf
        exact B_X12_isAnswer_133 a0 l1 l2 l3 l4 σ G hm ok_a0 hf hb0 hr w (lv_sub hl [0, 1, 2, 3, 4] rfl)
      · rw [if_neg hc] at hf
        obtain ⟨x9, h9, e9⟩ := map_some_inv hf
        subst e9
        have e8 := hr _ rfl
        rw [e8] at h9
        exact B_X12_isAnswer_131  σ G hm  h9 w (lv_sub hl [] rfl)
set_option maxRecDepth 100000 in
set_option maxHeartbeats 4000000 in
theorem B_X12_isAnswer_82 {H : Heap} {locs : List Loc} {ls : Array Slot} {r0 : Int32} {o : (Int32) ⊕ (Int32)} (a0 : Nat) (l1 : Int32) (l2 : Int32) (l3 : Int32) (l4 : Int32) (l5 : Int32) (s0 : Int32) (σ : hSt) (G : Gx p m c cX12_isAnswer 7 s args RX12 D ay NM ad (aN NM ad)) (hm : meth.sig.returnType = (some .boolean) ∧ meth.locks = false) (ok_a0 : okr kM NM 12 a0 = true) (hf : F_X12_isAnswer_82 a0 l1 l2 l3 l4 l5 s0 σ = some o) (hb0 : ∀ (v : Int32), o = .inl v → ∀ (H : Heap) (locs : List Loc) (ls : Array Slot), Wd D ay kM NM ad (aN NM ad) s σ H locs → lv_has ls 7 [(0, .ref (ad a0)), (1, .int l1), (2, .int l2), (3, .int l3), (4, .int v)] → W p l e (rmK 0 0) s m args below meth c H locs 0 0 (MQ below (cI D ay kM NM ad r0 σ) args s 0 0 (aN NM ad)) (F0 m 12 ls [])) (hr : ∀ x, o = .inr (x) → x = r0) (w : Wd D ay kM NM ad (aN NM ad) s σ H locs) (hl : lv_has ls 7 [(0, .ref (ad a0)), (1, .int l1), (2, .int l2), (3, .int l3), (4, .int l4), (5, .int l5)]) : W p l e (rmK 0 0) s m args below meth c H locs 0 0 (MQ below (cI D ay kM NM ad r0 σ) args s 0 0 (aN NM ad)) (F0 m 82 ls [.int s0]) := by
  have k_a0 := okr_in ok_a0
  unfold F_X12_isAnswer_82 at hf
  refine lv_istore (lv' := [(6, .int s0), (0, .ref (ad a0)), (1, .int l1), (2, .int l2), (3, .int l3), (4, .int l4), (5, .int l5)]) G.hx G.hb (dcs_get dec_X12_isAnswer_1 8 rfl) hl (by decide) rfl (fun ls hl => ?_)
  refine lv_aload_n G.hx G.hb (dcs_get dec_X12_isAnswer_1 9 rfl) rfl (lv_at hl 1 rfl) ?_
  refine r_geti (k := 55) cls12 fi_12_55.1 fi_12_55.2 q_1063 G w k_a0.1 k_a0.2 (dcs_get dec_X12_isAnswer_1 10 rfl) ?_
  refine lv_iconst (v := (2 : Int32)) G.hx G.hb (dcs_get dec_X12_isAnswer_1 11 rfl) (by decide) ?_
  refine lv_icmp_eq (tgt := 131) G.hx G.hb (dcs_get dec_X12_isAnswer_1 12 rfl) (by decide) (fun hc => ?_) (fun hc => ?_)
  · rw [if_pos hc] at hf
    obtain ⟨x9, h9, e9⟩ := map_some_inv hf
    subst e9
    have e8 := hr _ rfl
    rw [e8] at h9
    exact B_X12_isAnswer_131  σ G hm  h9 w (lv_sub hl [] rfl)
  · rw [if_neg hc] at hf
    refine lv_aload_n G.hx G.hb (dcs_get dec_X12_isAnswer_1 13 rfl) rfl (lv_at hl 1 rfl) ?_
    refine r_geti (k := 55) cls12 fi_12_55.1 fi_12_55.2 q_1063 G w k_a0.1 k_a0.2 (dcs_get dec_X12_isAnswer_1 14 rfl) ?_
    refine lv_iconst (v := (1 : Int32)) G.hx G.hb (dcs_get dec_X12_isAnswer_1 15 rfl) (by decide) ?_
    refine lv_icmp_ne (tgt := 105) G.hx G.hb (dcs_get dec_X12_isAnswer_1 16 rfl) (by decide) (fun hc => ?_) (fun hc => ?_)
    · rw [if_neg hc] at hf
      exact B_X12_isAnswer_105 a0 l1 l2 l3 l4 l5 s0 σ G hm ok_a0 hf hb0 hr w (lv_sub hl [1, 2, 3, 4, 5, 6, 0] rfl)
    · rw [if_pos hc] at hf
      refine lv_iload G.hx G.hb (dcs_get dec_X12_isAnswer_1 17 rfl) (lv_at hl 0 rfl) ?_
      refine lv_if_ne (tgt := 131) G.hx G.hb (dcs_get dec_X12_isAnswer_1 18 rfl) (by decide) (fun hc => ?_) (fun hc => ?_)
      · rw [if_neg hc] at hf
        obtain ⟨x9, h9, e9⟩ := map_some_inv hf
        subst e9
        have e8 := hr _ rfl
        rw [e8] at h9
        exact B_X12_isAnswer_131  σ G hm  h9 w (lv_sub hl [] rfl)
      · rw [if_pos hc] at hf
        exact B_X12_isAnswer_105 a0 l1 l2 l3 l4 l5 s0 σ G hm ok_a0 hf hb0 hr w (lv_sub hl [1, 2, 3, 4, 5, 6, 0] rfl)
set_option maxRecDepth 100000 in
set_option maxHeartbeats 4000000 in
theorem B_X12_isAnswer_12b {H : Heap} {locs : List Loc} {ls : Array Slot} {r0 : Int32} {o : (Int32) ⊕ (Int32)} (a0 : Nat) (l1 : Int32) (l2 : Int32) (l3 : Int32) (l4 : Int32) (σ : hSt) (G : Gx p m c cX12_isAnswer 7 s args RX12 D ay NM ad (aN NM ad)) (hm : meth.sig.returnType = (some .boolean) ∧ meth.locks = false) (ok_a0 : okr kM NM 12 a0 = true) (hf : F_X12_isAnswer_12b a0 l1 l2 l3 l4 σ = some o) (hb0 : ∀ (v : Int32), o = .inl v → ∀ (H : Heap) (locs : List Loc) (ls : Array Slot), Wd D ay kM NM ad (aN NM ad) s σ H locs → lv_has ls 7 [(0, .ref (ad a0)), (1, .int l1), (2, .int l2), (3, .int l3), (4, .int v)] → W p l e (rmK 0 0) s m args below meth c H locs 0 0 (MQ below (cI D ay kM NM ad r0 σ) args s 0 0 (aN NM ad)) (F0 m 12 ls [])) (hr : ∀ x, o = .inr (x) → x = r0) (w : Wd D ay kM NM ad (aN NM ad) s σ H locs) (hl : lv_has ls 7 [(0, .ref (ad a0)), (1, .int l1), (2, .int l2), (3, .int l3), (4, .int l4)]) : W p l e (rmK 0 0) s m args below meth c H locs 0 0 (MQ below (cI D ay kM NM ad r0 σ) args s 0 0 (aN NM ad)) (F0 m 12 ls []) := by
  have k_a0 := okr_in ok_a0
  unfold F_X12_isAnswer_12b at hf
  refine lv_iload G.hx G.hb (dcs_get dec_X12_isAnswer_0 7 rfl) (lv_at hl 4 rfl) ?_
  refine lv_aload_n G.hx G.hb (dcs_get dec_X12_isAnswer_0 8 rfl) rfl (lv_at hl 0 rfl) ?_
  obtain ⟨z4, e_z4, ok_z4, hf⟩ := cR_some hf
  have k_z4 := okr_in ok_z4
  refine r_getr (k := 54) cls12 fi_12_54.1 fi_12_54.2 q_1062 G w k_a0.1 k_a0.2 e_z4 (dcs_get dec_X12_isAnswer_0 9 rfl) ?_
  refine lv_bipush (v := (121 : Int32)) G.hx G.hb (dcs_get dec_X12_isAnswer_0 10 rfl) (by decide) ?_
  obtain ⟨h5, hf⟩ := cG_some hf
  refine r_iald G w k_z4.1 k_z4.2 h5 (dcs_get dec_X12_isAnswer_0 11 rfl) ?_
  refine lv_icmp_ge (tgt := 139) G.hx G.hb (dcs_get dec_X12_isAnswer_0 12 rfl) (by decide) (fun hc => ?_) (fun hc => ?_)
  · rw [if_pos hc] at hf
    refine lv_iconst (v := (0 : Int32)) G.hx G.hb (dcs_get dec_X12_isAnswer_1 37 rfl) (by decide) ?_
    have e9 := hr _ (Option.some.inj hf).symm
    exact r_zret rfl G w hm e9 rfl (dcs_get dec_X12_isAnswer_1 38 rfl)
  · rw [if_neg hc] at hf
    refine lv_sipush (v := (130 : Int32)) G.hx G.hb (dcs_get dec_X12_isAnswer_0 13 rfl) (by decide) ?_
    refine lv_iconst (v := (4 : Int32)) G.hx G.hb (dcs_get dec_X12_isAnswer_0 14 rfl) (by decide) ?_
    refine lv_iload G.hx G.hb (dcs_get dec_X12_isAnswer_0 15 rfl) (lv_at hl 4 rfl) ?_
    refine lv_imul G.hx G.hb (dcs_get dec_X12_isAnswer_0 16 rfl) ?_
    refine lv_iadd G.hx G.hb (dcs_get dec_X12_isAnswer_0 17 rfl) ?_
    obtain ⟨v6, e_v6, hf⟩ := cL_some hf
    refine r_topi e_v6 ?_
    refine lv_istore (lv' := [(5, .int v6), (0, .ref (ad a0)), (1, .int l1), (2, .int l2), (3, .int l3), (4, .int l4)]) G.hx G.hb (dcs_get dec_X12_isAnswer_0 18 rfl) hl (by decide) rfl (fun ls hl => ?_)
    refine lv_aload_n G.hx G.hb (dcs_get dec_X12_isAnswer_0 19 rfl) rfl (lv_at hl 1 rfl) ?_
    obtain ⟨z7, e_z7, ok_z7, hf⟩ := cR_some hf
    have k_z7 := okr_in ok_z7
    refine r_getr (k := 54) cls12 fi_12_54.1 fi_12_54.2 q_1062 G w k_a0.1 k_a0.2 e_z7 (dcs_get dec_X12_isAnswer_0 20 rfl) ?_
    refine lv_iload G.hx G.hb (dcs_get dec_X12_isAnswer_0 21 rfl) (lv_at hl 0 rfl) ?_
    obtain ⟨h8, hf⟩ := cG_some hf
    refine r_iald G w k_z7.1 k_z7.2 h8 (dcs_get dec_X12_isAnswer_0 22 rfl) ?_
    refine lv_iload_n G.hx G.hb (dcs_get dec_X12_isAnswer_0 23 rfl) rfl (lv_at hl 2 rfl) ?_
    refine lv_icmp_eq (tgt := 133) G.hx G.hb (dcs_get dec_X12_isAnswer_0 24 rfl) (by decide) (fun hc => ?_) (fun hc => ?_)
    · rw [if_pos hc] at hf
      exact B_X12_isAnswer_133 a0 l1 l2 l3 l4 σ G hm ok_a0 hf hb0 hr w (lv_sub hl [1, 2, 3, 4, 5] rfl)
    · rw [if_neg hc] at hf
      refine lv_aload_n G.hx G.hb (dcs_get dec_X12_isAnswer_0 25 rfl) rfl (lv_at hl 1 rfl) ?_
      obtain ⟨z9, e_z9, ok_z9, hf⟩ := cR_some hf
      have k_z9 := okr_in ok_z9
      refine r_getr (k := 54) cls12 fi_12_54.1 fi_12_54.2 q_1062 G w k_a0.1 k_a0.2 e_z9 (dcs_get dec_X12_isAnswer_0 26 rfl) ?_
      refine lv_iload G.hx G.hb (dcs_get dec_X12_isAnswer_0 27 rfl) (lv_at hl 0 rfl) ?_
      refine lv_iconst (v := (3 : Int32)) G.hx G.hb (dcs_get dec_X12_isAnswer_0 28 rfl) (by decide) ?_
      refine lv_iadd G.hx G.hb (dcs_get dec_X12_isAnswer_0 29 rfl) ?_
      obtain ⟨h10, hf⟩ := cG_some hf
      refine r_iald G w k_z9.1 k_z9.2 h10 (dcs_get dec_X12_isAnswer_0 30 rfl) ?_
      refine lv_iload_n G.hx G.hb (dcs_get dec_X12_isAnswer_0 31 rfl) rfl (lv_at hl 2 rfl) ?_
      refine lv_ishr G.hx G.hb (dcs_get dec_X12_isAnswer_0 32 rfl) ?_
      refine lv_iconst (v := (1 : Int32)) G.hx G.hb (dcs_get dec_X12_isAnswer_0 33 rfl) (by decide) ?_
      refine lv_iand G.hx G.hb (dcs_get dec_X12_isAnswer_0 34 rfl) ?_
      refine lv_if_ne (tgt := 64) G.hx G.hb (dcs_get dec_X12_isAnswer_0 35 rfl) (by decide) (fun hc => ?_) (fun hc => ?_)
      · rw [if_neg hc] at hf
        refine lv_aload_n G.hx G.hb (dcs_get dec_X12_isAnswer_0 37 rfl) rfl (lv_at hl 1 rfl) ?_
        obtain ⟨z11, e_z11, ok_z11, hf⟩ := cR_some hf
        have k_z11 := okr_in ok_z11
        refine r_getr (k := 54) cls12 fi_12_54.1 fi_12_54.2 q_1062 G w k_a0.1 k_a0.2 e_z11 (dcs_get dec_X12_isAnswer_0 38 rfl) ?_
        refine lv_iload G.hx G.hb (dcs_get dec_X12_isAnswer_0 39 rfl) (lv_at hl 0 rfl) ?_
        refine lv_iconst (v := (1 : Int32)) G.hx G.hb (dcs_get dec_X12_isAnswer_1 0 rfl) (by decide) ?_
        refine lv_iadd G.hx G.hb (dcs_get dec_X12_isAnswer_1 1 rfl) ?_
        obtain ⟨h12, hf⟩ := cG_some hf
        refine r_iald G w k_z11.1 k_z11.2 h12 (dcs_get dec_X12_isAnswer_1 2 rfl) ?_
        refine lv_iload_n G.hx G.hb (dcs_get dec_X12_isAnswer_1 3 rfl) rfl (lv_at hl 3 rfl) ?_
        refine lv_icmp_ne (tgt := 81) G.hx G.hb (dcs_get dec_X12_isAnswer_1 4 rfl) (by decide) (fun hc => ?_) (fun hc => ?_)
        · rw [if_neg hc] at hf
          refine lv_iconst (v := (0 : Int32)) G.hx G.hb (dcs_get dec_X12_isAnswer_1 7 rfl) (by decide) ?_
          exact B_X12_isAnswer_82 a0 l1 l2 l3 l4 v6 (0 : Int32) σ G hm ok_a0 hf hb0 hr w (lv_sub hl [1, 2, 3, 4, 5, 0] rfl)
        · rw [if_pos hc] at hf
          refine lv_iconst (v := (1 : Int32)) G.hx G.hb (dcs_get dec_X12_isAnswer_1 5 rfl) (by decide) ?_
          refine lv_goto (tgt := 82) G.hx G.hb (dcs_get dec_X12_isAnswer_1 6 rfl) (by decide) ?_
          exact B_X12_isAnswer_82 a0 l1 l2 l3 l4 v6 (1 : Int32) σ G hm ok_a0 hf hb0 hr w (lv_sub hl [1, 2, 3, 4, 5, 0] rfl)
      · rw [if_pos hc] at hf
        refine lv_goto (tgt := 133) G.hx G.hb (dcs_get dec_X12_isAnswer_0 36 rfl) (by decide) ?_
        exact B_X12_isAnswer_133 a0 l1 l2 l3 l4 σ G hm ok_a0 hf hb0 hr w (lv_sub hl [1, 2, 3, 4, 5] rfl)
set_option maxRecDepth 100000 in
set_option maxHeartbeats 4000000 in
theorem H_X12_isAnswer_12 {r0 : Int32} (a0 : Nat) (l1 : Int32) (l2 : Int32) (l3 : Int32) (σ : hSt) (G : Gx p m c cX12_isAnswer 7 s args RX12 D ay NM ad (aN NM ad)) (hm : meth.sig.returnType = (some .boolean) ∧ meth.locks = false) (ok_a0 : okr kM NM 12 a0 = true)  : ∀ (k : Nat) (v : Int32), lp (S_X12_isAnswer_12 a0 l1 l2 l3 σ) k v = some r0 → ∀ (H : Heap) (locs : List Loc) (ls : Array Slot), Wd D ay kM NM ad (aN NM ad) s σ H locs → lv_has ls 7 [(0, .ref (ad a0)), (1, .int l1), (2, .int l2), (3, .int l3), (4, .int v)] → W p l e (rmK 0 0) s m args below meth c H locs 0 0 (MQ below (cI D ay kM NM ad r0 σ) args s 0 0 (aN NM ad)) (F0 m 12 ls []) := by
  intro k
  induction k with
  | zero => intro v hf; cases hf
  | succ k ih =>
    intro v hf H locs ls w hl
    obtain ⟨o1, h1, h2, h3⟩ := lp_some hf
    exact B_X12_isAnswer_12b a0 l1 l2 l3 v σ G hm ok_a0 h1  (fun v' e => ih v' (h2 v' e)) (fun x e => h3 x e) w hl
set_option maxRecDepth 100000 in
set_option maxHeartbeats 4000000 in
theorem B_X12_isAnswer_12 {H : Heap} {locs : List Loc} {ls : Array Slot} {r0 : Int32} (a0 : Nat) (l1 : Int32) (l2 : Int32) (l3 : Int32) (l4 : Int32) (σ : hSt) (G : Gx p m c cX12_isAnswer 7 s args RX12 D ay NM ad (aN NM ad)) (hm : meth.sig.returnType = (some .boolean) ∧ meth.locks = false) (ok_a0 : okr kM NM 12 a0 = true) (hf : F_X12_isAnswer_12 a0 l1 l2 l3 l4 σ = some r0)  (w : Wd D ay kM NM ad (aN NM ad) s σ H locs) (hl : lv_has ls 7 [(0, .ref (ad a0)), (1, .int l1), (2, .int l2), (3, .int l3), (4, .int l4)]) : W p l e (rmK 0 0) s m args below meth c H locs 0 0 (MQ below (cI D ay kM NM ad r0 σ) args s 0 0 (aN NM ad)) (F0 m 12 ls []) := by
  unfold F_X12_isAnswer_12 at hf
  exact H_X12_isAnswer_12 a0 l1 l2 l3 σ G hm ok_a0  fuel (l4) hf _ _ _ w hl
set_option maxRecDepth 100000 in
set_option maxHeartbeats 4000000 in
theorem B_X12_isAnswer_0 {H : Heap} {locs : List Loc} {ls : Array Slot} {r0 : Int32} (a0 : Nat) (l1 : Int32) (l2 : Int32) (l3 : Int32) (σ : hSt) (G : Gx p m c cX12_isAnswer 7 s args RX12 D ay NM ad (aN NM ad)) (hm : meth.sig.returnType = (some .boolean) ∧ meth.locks = false) (ok_a0 : okr kM NM 12 a0 = true) (hf : F_X12_isAnswer a0 l1 l2 l3 σ = some r0)  (w : Wd D ay kM NM ad (aN NM ad) s σ H locs) (hl : lv_has ls 7 [(0, .ref (ad a0)), (1, .int l1), (2, .int l2), (3, .int l3)]) : W p l e (rmK 0 0) s m args below meth c H locs 0 0 (MQ below (cI D ay kM NM ad r0 σ) args s 0 0 (aN NM ad)) (F0 m 0 ls []) := by
  have k_a0 := okr_in ok_a0
  unfold F_X12_isAnswer at hf
  refine lv_aload_n G.hx G.hb (dcs_get dec_X12_isAnswer_0 0 rfl) rfl (lv_at hl 0 rfl) ?_
  refine r_geti (k := 55) cls12 fi_12_55.1 fi_12_55.2 q_1063 G w k_a0.1 k_a0.2 (dcs_get dec_X12_isAnswer_0 1 rfl) ?_
  refine lv_if_ne (tgt := 9) G.hx G.hb (dcs_get dec_X12_isAnswer_0 2 rfl) (by decide) (fun hc => ?_) (fun hc => ?_)
  · rw [if_neg hc] at hf
    refine lv_iconst (v := (0 : Int32)) G.hx G.hb (dcs_get dec_X12_isAnswer_0 5 rfl) (by decide) ?_
    refine lv_istore (lv' := [(4, .int (0 : Int32)), (0, .ref (ad a0)), (1, .int l1), (2, .int l2), (3, .int l3)]) G.hx G.hb (dcs_get dec_X12_isAnswer_0 6 rfl) hl (by decide) rfl (fun ls hl => ?_)
    exact B_X12_isAnswer_12 a0 l1 l2 l3 (0 : Int32) σ G hm ok_a0 hf  w (lv_sub hl [1, 2, 3, 4, 0] rfl)
  · rw [if_pos hc] at hf
    refine lv_iconst (v := (0 : Int32)) G.hx G.hb (dcs_get dec_X12_isAnswer_0 3 rfl) (by decide) ?_
    have e9 := Option.some.inj hf
    exact r_zret rfl G w hm e9 rfl (dcs_get dec_X12_isAnswer_0 4 rfl)
end
set_option maxRecDepth 100000 in
set_option maxHeartbeats 4000000 in
theorem C_X12_isAnswer {l : Launch} {D : va_G} {ay : Nat → ClassId} {ad : Nat → Nat} (hi : hInj NM ad) (a0 : Nat) (l1 : Int32) (l2 : Int32) (l3 : Int32) (σ : hSt) {r0 : Int32} (hf : F_X12_isAnswer a0 l1 l2 l3 σ = some r0) (ok_a0 : okr kM NM 12 a0 = true) : hM l D ay kM NM ad yX12_isAnswer cX12_isAnswer 7 ((some .boolean)) (rmK 0 0) [.ref (ad a0), .int l1, .int l2, .int l3] σ (cI D ay kM NM ad r0 σ) := by
  refine hM_in (by decide) hi (Nat.le_of_ble_eq_true rfl) ?_
  intro p e s m below meth c G hm w ls hl
  exact B_X12_isAnswer_0 a0 l1 l2 l3 σ G hm ok_a0 hf w (lv_sub hl [0, 1, 2, 3] rfl)

/-! HillDrumsModel.isLawful(III)Z -/
def DL_X12_isLawful_0 : List (Nat × Instr × Nat) := [(0, .aload_n 0, 1), (1, .iload_n 1, 1), (2, .iload_n 2, 1), (3, .invokevirtual 354, 3), (6, .ifCond .eq 29, 3), (9, .aload_n 0, 1), (10, .getfield 128, 3), (13, .bipush 121, 2), (15, .iaload, 1), (16, .bipush 60, 2), (18, .if_icmp .ge 17, 3), (21, .aload_n 0, 1), (22, .iload_n 1, 1), (23, .iload_n 2, 1), (24, .iload_n 3, 1), (25, .invokevirtual 358, 3), (28, .ifCond .ne 7, 3), (31, .iconst 1, 1), (32, .goto 4, 3), (35, .iconst 0, 1), (36, .ireturn, 1)]
set_option maxRecDepth 100000 in
theorem dec_X12_isLawful_0 : dcs cX12_isLawful DL_X12_isLawful_0 = true := by decide +kernel
theorem lb_X12_isLawful : lkB yX12_isLawful cX12_isLawful 4 ((some .boolean)) 3 := ⟨q_1443, q_14, ⟨by decide, by decide⟩, by decide +kernel⟩
theorem lv_X12_isLawful : lkV yX12_isLawful := ⟨q_1442, qs_109⟩
def F_X12_isLawful_36 (s0 : Int32) (σ : hSt) : Option (Int32) :=
cG (isB s0) <|
some (s0)
def F_X12_isLawful_35  (σ : hSt) : Option (Int32) :=
F_X12_isLawful_36 (0 : Int32) σ
def F_X12_isLawful (a0 : Nat) (l1 : Int32) (l2 : Int32) (l3 : Int32) (σ : hSt) : Option (Int32) :=
(F_X12_knows a0 l1 l2 σ).bind fun v3 =>
if v3 = 0 then (
F_X12_isLawful_35  σ) else (
cR (σ.2.2 a0 54) (okr kM NM 101) fun z4 =>
cG (inb (121 : Int32) (kM z4).2) <|
if (60 : Int32) ≤ (σ.1 z4 (121 : Int32).toNatClampNeg) then (
F_X12_isLawful_35  σ) else (
(F_X12_isAnswer a0 l1 l2 l3 σ).bind fun v7 =>
if v7 = 0 then (
F_X12_isLawful_36 (1 : Int32) σ) else (
F_X12_isLawful_35  σ)))
section
variable {p : Program} {l : Launch} {e : Env} {s : State} {m : MethodId} {args : Array Value} {below : List Frame} {meth : Method} {c : Code} {D : va_G} {ay : Nat → ClassId} {ad : Nat → Nat}
set_option maxRecDepth 100000 in
set_option maxHeartbeats 4000000 in
theorem B_X12_isLawful_36 {H : Heap} {locs : List Loc} {ls : Array Slot} {r0 : Int32} (s0 : Int32) (σ : hSt) (G : Gx p m c cX12_isLawful 4 s args RX12 D ay NM ad (aN NM ad)) (hm : meth.sig.returnType = (some .boolean) ∧ meth.locks = false)  (hf : F_X12_isLawful_36 s0 σ = some r0)  (w : Wd D ay kM NM ad (aN NM ad) s σ H locs) (hl : lv_has ls 4 []) : W p l e (rmK 1 26) s m args below meth c H locs 0 0 (MQ below (cI D ay kM NM ad r0 σ) args s 0 0 (aN NM ad)) (F0 m 36 ls [.int s0]) := by
  unfold F_X12_isLawful_36 at hf
  obtain ⟨h1, hf⟩ := cG_some hf
  have e9 := Option.some.inj hf
  exact r_zret (isB_nar h1) G w hm e9 rfl (dcs_get dec_X12_isLawful_0 20 rfl)
set_option maxRecDepth 100000 in
set_option maxHeartbeats 4000000 in
theorem B_X12_isLawful_35 {H : Heap} {locs : List Loc} {ls : Array Slot} {r0 : Int32}  (σ : hSt) (G : Gx p m c cX12_isLawful 4 s args RX12 D ay NM ad (aN NM ad)) (hm : meth.sig.returnType = (some .boolean) ∧ meth.locks = false)  (hf : F_X12_isLawful_35  σ = some r0)  (w : Wd D ay kM NM ad (aN NM ad) s σ H locs) (hl : lv_has ls 4 []) : W p l e (rmK 1 26) s m args below meth c H locs 0 0 (MQ below (cI D ay kM NM ad r0 σ) args s 0 0 (aN NM ad)) (F0 m 35 ls []) := by
  unfold F_X12_isLawful_35 at hf
  refine lv_iconst (v := (0 : Int32)) G.hx G.hb (dcs_get dec_X12_isLawful_0 19 rfl) (by decide) ?_
  exact B_X12_isLawful_36 (0 : Int32) σ G hm  hf  w (lv_sub hl [] rfl)
set_option maxRecDepth 100000 in
set_option maxHeartbeats 4000000 in
theorem B_X12_isLawful_0 {H : Heap} {locs : List Loc} {ls : Array Slot} {r0 : Int32} (a0 : Nat) (l1 : Int32) (l2 : Int32) (l3 : Int32) (σ : hSt) (G : Gx p m c cX12_isLawful 4 s args RX12 D ay NM ad (aN NM ad)) (hm : meth.sig.returnType = (some .boolean) ∧ meth.locks = false) (ok_a0 : okr kM NM 12 a0 = true) (hf : F_X12_isLawful a0 l1 l2 l3 σ = some r0)  (w : Wd D ay kM NM ad (aN NM ad) s σ H locs) (hl : lv_has ls 4 [(0, .ref (ad a0)), (1, .int l1), (2, .int l2), (3, .int l3)]) : W p l e (rmK 1 26) s m args below meth c H locs 0 0 (MQ below (cI D ay kM NM ad r0 σ) args s 0 0 (aN NM ad)) (F0 m 0 ls []) := by
  have k_a0 := okr_in ok_a0
  unfold F_X12_isLawful at hf
  refine lv_aload_n G.hx G.hb (dcs_get dec_X12_isLawful_0 0 rfl) rfl (lv_at hl 0 rfl) ?_
  refine lv_iload_n G.hx G.hb (dcs_get dec_X12_isLawful_0 1 rfl) rfl (lv_at hl 1 rfl) ?_
  refine lv_iload_n G.hx G.hb (dcs_get dec_X12_isLawful_0 2 rfl) rfl (lv_at hl 2 rfl) ?_
  obtain ⟨v3, h2, hf⟩ := cB_some hf
  refine a_i (k_V (As := [.int l1, .int l2]) (rest := []) cls12 lb_X12_knows lv_X12_knows q_1392 (C_X12_knows G.2.2.1 a0 l1 l2 σ h2 ok_a0) ⟨(Nat.le_of_ble_eq_true rfl), (Nat.le_of_ble_eq_true rfl)⟩ G w k_a0.1 k_a0.2 rfl rfl hl.1 (Nat.le_of_ble_eq_true rfl) (dcs_get dec_X12_isLawful_0 3 rfl) ⟨Nat.le_refl _, Nat.le_refl _⟩) G w (fun H locs w => ?_)
  refine lv_if_eq (tgt := 35) G.hx G.hb (dcs_get dec_X12_isLawful_0 4 rfl) (by decide) (fun hc => ?_) (fun hc => ?_)
  · rw [if_pos hc] at hf
    exact B_X12_isLawful_35  σ G hm  hf  w (lv_sub hl [] rfl)
  · rw [if_neg hc] at hf
    refine lv_aload_n G.hx G.hb (dcs_get dec_X12_isLawful_0 5 rfl) rfl (lv_at hl 0 rfl) ?_
    obtain ⟨z4, e_z4, ok_z4, hf⟩ := cR_some hf
    have k_z4 := okr_in ok_z4
    refine r_getr (k := 54) cls12 fi_12_54.1 fi_12_54.2 q_1062 G w k_a0.1 k_a0.2 e_z4 (dcs_get dec_X12_isLawful_0 6 rfl) ?_
    refine lv_bipush (v := (121 : Int32)) G.hx G.hb (dcs_get dec_X12_isLawful_0 7 rfl) (by decide) ?_
    obtain ⟨h5, hf⟩ := cG_some hf
    refine r_iald G w k_z4.1 k_z4.2 h5 (dcs_get dec_X12_isLawful_0 8 rfl) ?_
    refine lv_bipush (v := (60 : Int32)) G.hx G.hb (dcs_get dec_X12_isLawful_0 9 rfl) (by decide) ?_
    refine lv_icmp_ge (tgt := 35) G.hx G.hb (dcs_get dec_X12_isLawful_0 10 rfl) (by decide) (fun hc => ?_) (fun hc => ?_)
    · rw [if_pos hc] at hf
      exact B_X12_isLawful_35  σ G hm  hf  w (lv_sub hl [] rfl)
    · rw [if_neg hc] at hf
      refine lv_aload_n G.hx G.hb (dcs_get dec_X12_isLawful_0 11 rfl) rfl (lv_at hl 0 rfl) ?_
      refine lv_iload_n G.hx G.hb (dcs_get dec_X12_isLawful_0 12 rfl) rfl (lv_at hl 1 rfl) ?_
      refine lv_iload_n G.hx G.hb (dcs_get dec_X12_isLawful_0 13 rfl) rfl (lv_at hl 2 rfl) ?_
      refine lv_iload_n G.hx G.hb (dcs_get dec_X12_isLawful_0 14 rfl) rfl (lv_at hl 3 rfl) ?_
      obtain ⟨v7, h6, hf⟩ := cB_some hf
      refine a_i (k_V (As := [.int l1, .int l2, .int l3]) (rest := []) cls12 lb_X12_isAnswer lv_X12_isAnswer q_1396 (C_X12_isAnswer G.2.2.1 a0 l1 l2 l3 σ h6 ok_a0) ⟨(Nat.le_of_ble_eq_true rfl), (Nat.le_of_ble_eq_true rfl)⟩ G w k_a0.1 k_a0.2 rfl rfl hl.1 (Nat.le_of_ble_eq_true rfl) (dcs_get dec_X12_isLawful_0 15 rfl) ⟨Nat.le_refl _, Nat.le_refl _⟩) G w (fun H locs w => ?_)
      refine lv_if_ne (tgt := 35) G.hx G.hb (dcs_get dec_X12_isLawful_0 16 rfl) (by decide) (fun hc => ?_) (fun hc => ?_)
      · rw [if_neg hc] at hf
        exact B_X12_isLawful_35  σ G hm  hf  w (lv_sub hl [] rfl)
      · rw [if_pos hc] at hf
        refine lv_iconst (v := (1 : Int32)) G.hx G.hb (dcs_get dec_X12_isLawful_0 17 rfl) (by decide) ?_
        refine lv_goto (tgt := 36) G.hx G.hb (dcs_get dec_X12_isLawful_0 18 rfl) (by decide) ?_
        exact B_X12_isLawful_36 (1 : Int32) σ G hm  hf  w (lv_sub hl [] rfl)
end
set_option maxRecDepth 100000 in
set_option maxHeartbeats 4000000 in
theorem C_X12_isLawful {l : Launch} {D : va_G} {ay : Nat → ClassId} {ad : Nat → Nat} (hi : hInj NM ad) (a0 : Nat) (l1 : Int32) (l2 : Int32) (l3 : Int32) (σ : hSt) {r0 : Int32} (hf : F_X12_isLawful a0 l1 l2 l3 σ = some r0) (ok_a0 : okr kM NM 12 a0 = true) : hM l D ay kM NM ad yX12_isLawful cX12_isLawful 4 ((some .boolean)) (rmK 1 26) [.ref (ad a0), .int l1, .int l2, .int l3] σ (cI D ay kM NM ad r0 σ) := by
  refine hM_in (by decide) hi (Nat.le_of_ble_eq_true rfl) ?_
  intro p e s m below meth c G hm w ls hl
  exact B_X12_isLawful_0 a0 l1 l2 l3 σ G hm ok_a0 hf w (lv_sub hl [0, 1, 2, 3] rfl)

/-! HillDrumsModel.drumsNow(III)I -/
def DL_X12_drumsNow_0 : List (Nat × Instr × Nat) := [(0, .sipush 130, 3), (3, .iconst 4, 1), (4, .aload_n 0, 1), (5, .getfield 128, 3), (8, .bipush 121, 2), (10, .iaload, 1), (11, .imul, 1), (12, .iadd, 1), (13, .istore 4, 2), (15, .aload_n 0, 1), (16, .getfield 128, 3), (19, .iload 4, 2), (21, .iload_n 1, 1), (22, .iastore, 1), (23, .aload_n 0, 1), (24, .getfield 128, 3), (27, .iload 4, 2), (29, .iconst 1, 1), (30, .iadd, 1), (31, .iload_n 2, 1), (32, .iastore, 1), (33, .aload_n 0, 1), (34, .getfield 128, 3), (37, .iload 4, 2), (39, .iconst 2, 1), (40, .iadd, 1), (41, .iload_n 3, 1), (42, .iastore, 1), (43, .aload_n 0, 1), (44, .getfield 128, 3), (47, .iload 4, 2), (49, .iconst 3, 1), (50, .iadd, 1), (51, .aload_n 0, 1), (52, .getfield 122, 3), (55, .iload_n 1, 1), (56, .iaload, 1), (57, .iastore, 1), (58, .aload_n 0, 1), (59, .getfield 128, 3)]
set_option maxRecDepth 100000 in
theorem dec_X12_drumsNow_0 : dcs cX12_drumsNow DL_X12_drumsNow_0 = true := by decide +kernel
def DL_X12_drumsNow_1 : List (Nat × Instr × Nat) := [(62, .bipush 121, 2), (64, .dup2, 1), (65, .iaload, 1), (66, .iconst 1, 1), (67, .iadd, 1), (68, .iastore, 1), (69, .aload_n 0, 1), (70, .iload_n 1, 1), (71, .iload_n 2, 1), (72, .iload_n 3, 1), (73, .aload_n 0, 1), (74, .getfield 122, 3), (77, .iload_n 1, 1), (78, .iaload, 1), (79, .invokevirtual 361, 3), (82, .ireturn, 1)]
set_option maxRecDepth 100000 in
theorem dec_X12_drumsNow_1 : dcs cX12_drumsNow DL_X12_drumsNow_1 = true := by decide +kernel
theorem lb_X12_drumsNow : lkB yX12_drumsNow cX12_drumsNow 5 ((some .int)) 3 := ⟨q_1407, q_14, ⟨by decide, by decide⟩, by decide +kernel⟩
theorem lv_X12_drumsNow : lkV yX12_drumsNow := ⟨q_1406, qs_104⟩
def F_X12_drumsNow (a0 : Nat) (l1 : Int32) (l2 : Int32) (l3 : Int32) (σ : hSt) : Option (Int32 × hSt) :=
cR (σ.2.2 a0 54) (okr kM NM 101) fun z1 =>
cG (inb (121 : Int32) (kM z1).2) <|
cL ((130 : Int32) + ((4 : Int32) * (σ.1 z1 (121 : Int32).toNatClampNeg))) fun v3 =>
cR (σ.2.2 a0 54) (okr kM NM 101) fun z4 =>
cG (inb v3 (kM z4).2) <|
cL (uI σ z4 v3.toNatClampNeg l1) fun σ6 =>
cR (σ6.2.2 a0 54) (okr kM NM 101) fun z7 =>
cG (inb (v3 + (1 : Int32)) (kM z7).2) <|
cL (uI σ6 z7 (v3 + (1 : Int32)).toNatClampNeg l2) fun σ9 =>
cR (σ9.2.2 a0 54) (okr kM NM 101) fun z10 =>
cG (inb (v3 + (2 : Int32)) (kM z10).2) <|
cL (uI σ9 z10 (v3 + (2 : Int32)).toNatClampNeg l3) fun σ12 =>
cR (σ12.2.2 a0 54) (okr kM NM 101) fun z13 =>
cR (σ12.2.2 a0 52) (okr kM NM 101) fun z14 =>
cG (inb l1 (kM z14).2) <|
cG (inb (v3 + (3 : Int32)) (kM z13).2) <|
cL (uI σ12 z13 (v3 + (3 : Int32)).toNatClampNeg (σ12.1 z14 l1.toNatClampNeg)) fun σ17 =>
cR (σ17.2.2 a0 54) (okr kM NM 101) fun z18 =>
cG (inb (121 : Int32) (kM z18).2) <|
cG (inb (121 : Int32) (kM z18).2) <|
cL (uI σ17 z18 (121 : Int32).toNatClampNeg ((σ17.1 z18 (121 : Int32).toNatClampNeg) + (1 : Int32))) fun σ21 =>
cR (σ21.2.2 a0 52) (okr kM NM 101) fun z22 =>
cG (inb l1 (kM z22).2) <|
cC (F_X12_spreads a0 l1 l2 l3 (σ21.1 z22 l1.toNatClampNeg) σ21) fun v25 σ26 =>
some ((v25, σ26))
section
variable {p : Program} {l : Launch} {e : Env} {s : State} {m : MethodId} {args : Array Value} {below : List Frame} {meth : Method} {c : Code} {D : va_G} {ay : Nat → ClassId} {ad : Nat → Nat}
set_option maxRecDepth 100000 in
set_option maxHeartbeats 4000000 in
theorem B_X12_drumsNow_0 {H : Heap} {locs : List Loc} {ls : Array Slot} {r0 : Int32} {σ0 : hSt} (a0 : Nat) (l1 : Int32) (l2 : Int32) (l3 : Int32) (σ : hSt) (G : Gx p m c cX12_drumsNow 5 s args RX12 D ay NM ad (aN NM ad)) (hm : meth.sig.returnType = (some .int) ∧ meth.locks = false) (ok_a0 : okr kM NM 12 a0 = true) (hf : F_X12_drumsNow a0 l1 l2 l3 σ = some (r0, σ0))  (w : Wd D ay kM NM ad (aN NM ad) s σ H locs) (hl : lv_has ls 5 [(0, .ref (ad a0)), (1, .int l1), (2, .int l2), (3, .int l3)]) : W p l e (rmK 1 27) s m args below meth c H locs 0 0 (MQ below (cI D ay kM NM ad r0 σ0) args s 0 0 (aN NM ad)) (F0 m 0 ls []) := by
  have k_a0 := okr_in ok_a0
  unfold F_X12_drumsNow at hf
  refine lv_sipush (v := (130 : Int32)) G.hx G.hb (dcs_get dec_X12_drumsNow_0 0 rfl) (by decide) ?_
  refine lv_iconst (v := (4 : Int32)) G.hx G.hb (dcs_get dec_X12_drumsNow_0 1 rfl) (by decide) ?_
  refine lv_aload_n G.hx G.hb (dcs_get dec_X12_drumsNow_0 2 rfl) rfl (lv_at hl 0 rfl) ?_
  obtain ⟨z1, e_z1, ok_z1, hf⟩ := cR_some hf
  have k_z1 := okr_in ok_z1
  refine r_getr (k := 54) cls12 fi_12_54.1 fi_12_54.2 q_1062 G w k_a0.1 k_a0.2 e_z1 (dcs_get dec_X12_drumsNow_0 3 rfl) ?_
  refine lv_bipush (v := (121 : Int32)) G.hx G.hb (dcs_get dec_X12_drumsNow_0 4 rfl) (by decide) ?_
  obtain ⟨h2, hf⟩ := cG_some hf
  refine r_iald G w k_z1.1 k_z1.2 h2 (dcs_get dec_X12_drumsNow_0 5 rfl) ?_
  refine lv_imul G.hx G.hb (dcs_get dec_X12_drumsNow_0 6 rfl) ?_
  refine lv_iadd G.hx G.hb (dcs_get dec_X12_drumsNow_0 7 rfl) ?_
  obtain ⟨v3, e_v3, hf⟩ := cL_some hf
  refine r_topi e_v3 ?_
  refine lv_istore (lv' := [(4, .int v3), (0, .ref (ad a0)), (1, .int l1), (2, .int l2), (3, .int l3)]) G.hx G.hb (dcs_get dec_X12_drumsNow_0 8 rfl) hl (by decide) rfl (fun ls hl => ?_)
  refine lv_aload_n G.hx G.hb (dcs_get dec_X12_drumsNow_0 9 rfl) rfl (lv_at hl 1 rfl) ?_
  obtain ⟨z4, e_z4, ok_z4, hf⟩ := cR_some hf
  have k_z4 := okr_in ok_z4
  refine r_getr (k := 54) cls12 fi_12_54.1 fi_12_54.2 q_1062 G w k_a0.1 k_a0.2 e_z4 (dcs_get dec_X12_drumsNow_0 10 rfl) ?_
  refine lv_iload G.hx G.hb (dcs_get dec_X12_drumsNow_0 11 rfl) (lv_at hl 0 rfl) ?_
  refine lv_iload_n G.hx G.hb (dcs_get dec_X12_drumsNow_0 12 rfl) rfl (lv_at hl 2 rfl) ?_
  obtain ⟨h5, hf⟩ := cG_some hf
  obtain ⟨σ6, e_σ6, hf⟩ := cL_some hf
  refine r_iast G w k_z4.1 k_z4.2 h5 (dcs_get dec_X12_drumsNow_0 13 rfl) (fun H locs w => ?_)
  have w := Wd.nm e_σ6 w
  refine lv_aload_n G.hx G.hb (dcs_get dec_X12_drumsNow_0 14 rfl) rfl (lv_at hl 1 rfl) ?_
  obtain ⟨z7, e_z7, ok_z7, hf⟩ := cR_some hf
  have k_z7 := okr_in ok_z7
  refine r_getr (k := 54) cls12 fi_12_54.1 fi_12_54.2 q_1062 G w k_a0.1 k_a0.2 e_z7 (dcs_get dec_X12_drumsNow_0 15 rfl) ?_
  refine lv_iload G.hx G.hb (dcs_get dec_X12_drumsNow_0 16 rfl) (lv_at hl 0 rfl) ?_
  refine lv_iconst (v := (1 : Int32)) G.hx G.hb (dcs_get dec_X12_drumsNow_0 17 rfl) (by decide) ?_
  refine lv_iadd G.hx G.hb (dcs_get dec_X12_drumsNow_0 18 rfl) ?_
  refine lv_iload_n G.hx G.hb (dcs_get dec_X12_drumsNow_0 19 rfl) rfl (lv_at hl 3 rfl) ?_
  obtain ⟨h8, hf⟩ := cG_some hf
  obtain ⟨σ9, e_σ9, hf⟩ := cL_some hf
  refine r_iast G w k_z7.1 k_z7.2 h8 (dcs_get dec_X12_drumsNow_0 20 rfl) (fun H locs w => ?_)
  have w := Wd.nm e_σ9 w
  refine lv_aload_n G.hx G.hb (dcs_get dec_X12_drumsNow_0 21 rfl) rfl (lv_at hl 1 rfl) ?_
  obtain ⟨z10, e_z10, ok_z10, hf⟩ := cR_some hf
  have k_z10 := okr_in ok_z10
  refine r_getr (k := 54) cls12 fi_12_54.1 fi_12_54.2 q_1062 G w k_a0.1 k_a0.2 e_z10 (dcs_get dec_X12_drumsNow_0 22 rfl) ?_
  refine lv_iload G.hx G.hb (dcs_get dec_X12_drumsNow_0 23 rfl) (lv_at hl 0 rfl) ?_
  refine lv_iconst (v := (2 : Int32)) G.hx G.hb (dcs_get dec_X12_drumsNow_0 24 rfl) (by decide) ?_
  refine lv_iadd G.hx G.hb (dcs_get dec_X12_drumsNow_0 25 rfl) ?_
  refine lv_iload_n G.hx G.hb (dcs_get dec_X12_drumsNow_0 26 rfl) rfl (lv_at hl 4 rfl) ?_
  obtain ⟨h11, hf⟩ := cG_some hf
  obtain ⟨σ12, e_σ12, hf⟩ := cL_some hf
  refine r_iast G w k_z10.1 k_z10.2 h11 (dcs_get dec_X12_drumsNow_0 27 rfl) (fun H locs w => ?_)
  have w := Wd.nm e_σ12 w
  refine lv_aload_n G.hx G.hb (dcs_get dec_X12_drumsNow_0 28 rfl) rfl (lv_at hl 1 rfl) ?_
  obtain ⟨z13, e_z13, ok_z13, hf⟩ := cR_some hf
  have k_z13 := okr_in ok_z13
  refine r_getr (k := 54) cls12 fi_12_54.1 fi_12_54.2 q_1062 G w k_a0.1 k_a0.2 e_z13 (dcs_get dec_X12_drumsNow_0 29 rfl) ?_
  refine lv_iload G.hx G.hb (dcs_get dec_X12_drumsNow_0 30 rfl) (lv_at hl 0 rfl) ?_
  refine lv_iconst (v := (3 : Int32)) G.hx G.hb (dcs_get dec_X12_drumsNow_0 31 rfl) (by decide) ?_
  refine lv_iadd G.hx G.hb (dcs_get dec_X12_drumsNow_0 32 rfl) ?_
  refine lv_aload_n G.hx G.hb (dcs_get dec_X12_drumsNow_0 33 rfl) rfl (lv_at hl 1 rfl) ?_
  obtain ⟨z14, e_z14, ok_z14, hf⟩ := cR_some hf
  have k_z14 := okr_in ok_z14
  refine r_getr (k := 52) cls12 fi_12_52.1 fi_12_52.2 q_1060 G w k_a0.1 k_a0.2 e_z14 (dcs_get dec_X12_drumsNow_0 34 rfl) ?_
  refine lv_iload_n G.hx G.hb (dcs_get dec_X12_drumsNow_0 35 rfl) rfl (lv_at hl 2 rfl) ?_
  obtain ⟨h15, hf⟩ := cG_some hf
  refine r_iald G w k_z14.1 k_z14.2 h15 (dcs_get dec_X12_drumsNow_0 36 rfl) ?_
  obtain ⟨h16, hf⟩ := cG_some hf
  obtain ⟨σ17, e_σ17, hf⟩ := cL_some hf
  refine r_iast G w k_z13.1 k_z13.2 h16 (dcs_get dec_X12_drumsNow_0 37 rfl) (fun H locs w => ?_)
  have w := Wd.nm e_σ17 w
  refine lv_aload_n G.hx G.hb (dcs_get dec_X12_drumsNow_0 38 rfl) rfl (lv_at hl 1 rfl) ?_
  obtain ⟨z18, e_z18, ok_z18, hf⟩ := cR_some hf
  have k_z18 := okr_in ok_z18
  refine r_getr (k := 54) cls12 fi_12_54.1 fi_12_54.2 q_1062 G w k_a0.1 k_a0.2 e_z18 (dcs_get dec_X12_drumsNow_0 39 rfl) ?_
  refine lv_bipush (v := (121 : Int32)) G.hx G.hb (dcs_get dec_X12_drumsNow_1 0 rfl) (by decide) ?_
  refine lv_dup2_11 G.hx G.hb (dcs_get dec_X12_drumsNow_1 1 rfl) rfl rfl ?_
  obtain ⟨h19, hf⟩ := cG_some hf
  refine r_iald G w k_z18.1 k_z18.2 h19 (dcs_get dec_X12_drumsNow_1 2 rfl) ?_
  refine lv_iconst (v := (1 : Int32)) G.hx G.hb (dcs_get dec_X12_drumsNow_1 3 rfl) (by decide) ?_
  refine lv_iadd G.hx G.hb (dcs_get dec_X12_drumsNow_1 4 rfl) ?_
  obtain ⟨h20, hf⟩ := cG_some hf
  obtain ⟨σ21, e_σ21, hf⟩ := cL_some hf
  refine r_iast G w k_z18.1 k_z18.2 h20 (dcs_get dec_X12_drumsNow_1 5 rfl) (fun H locs w => ?_)
  have w := Wd.nm e_σ21 w
  refine lv_aload_n G.hx G.hb (dcs_get dec_X12_drumsNow_1 6 rfl) rfl (lv_at hl 1 rfl) ?_
  refine lv_iload_n G.hx G.hb (dcs_get dec_X12_drumsNow_1 7 rfl) rfl (lv_at hl 2 rfl) ?_
  refine lv_iload_n G.hx G.hb (dcs_get dec_X12_drumsNow_1 8 rfl) rfl (lv_at hl 3 rfl) ?_
  refine lv_iload_n G.hx G.hb (dcs_get dec_X12_drumsNow_1 9 rfl) rfl (lv_at hl 4 rfl) ?_
  refine lv_aload_n G.hx G.hb (dcs_get dec_X12_drumsNow_1 10 rfl) rfl (lv_at hl 1 rfl) ?_
  obtain ⟨z22, e_z22, ok_z22, hf⟩ := cR_some hf
  have k_z22 := okr_in ok_z22
  refine r_getr (k := 52) cls12 fi_12_52.1 fi_12_52.2 q_1060 G w k_a0.1 k_a0.2 e_z22 (dcs_get dec_X12_drumsNow_1 11 rfl) ?_
  refine lv_iload_n G.hx G.hb (dcs_get dec_X12_drumsNow_1 12 rfl) rfl (lv_at hl 2 rfl) ?_
  obtain ⟨h23, hf⟩ := cG_some hf
  refine r_iald G w k_z22.1 k_z22.2 h23 (dcs_get dec_X12_drumsNow_1 13 rfl) ?_
  obtain ⟨v25, σ26, h24, hf⟩ := cC_some hf
  refine a_i (k_V (As := [.int l1, .int l2, .int l3, .int (σ21.1 z22 l1.toNatClampNeg)]) (rest := []) cls12 lb_X12_spreads lv_X12_spreads q_1408 (C_X12_spreads G.2.2.1 a0 l1 l2 l3 (σ21.1 z22 l1.toNatClampNeg) σ21 h24 ok_a0) ⟨(Nat.le_of_ble_eq_true rfl), (Nat.le_of_ble_eq_true rfl)⟩ G w k_a0.1 k_a0.2 rfl rfl hl.1 (Nat.le_of_ble_eq_true rfl) (dcs_get dec_X12_drumsNow_1 14 rfl) ⟨Nat.le_refl _, Nat.le_refl _⟩) G w (fun H locs w => ?_)
  have e9 := Option.some.inj hf
  exact r_iret G w hm (congrArg Prod.fst e9) (congrArg Prod.snd e9) (dcs_get dec_X12_drumsNow_1 15 rfl)
end
set_option maxRecDepth 100000 in
set_option maxHeartbeats 4000000 in
theorem C_X12_drumsNow {l : Launch} {D : va_G} {ay : Nat → ClassId} {ad : Nat → Nat} (hi : hInj NM ad) (a0 : Nat) (l1 : Int32) (l2 : Int32) (l3 : Int32) (σ : hSt) {r0 : Int32} {σ0 : hSt} (hf : F_X12_drumsNow a0 l1 l2 l3 σ = some (r0, σ0)) (ok_a0 : okr kM NM 12 a0 = true) : hM l D ay kM NM ad yX12_drumsNow cX12_drumsNow 5 ((some .int)) (rmK 1 27) [.ref (ad a0), .int l1, .int l2, .int l3] σ (cI D ay kM NM ad r0 σ0) := by
  refine hM_in (by decide) hi (Nat.le_of_ble_eq_true rfl) ?_
  intro p e s m below meth c G hm w ls hl
  exact B_X12_drumsNow_0 a0 l1 l2 l3 σ G hm ok_a0 hf w (lv_sub hl [0, 1, 2, 3] rfl)

/-! HillDrumsModel.nightGoes()V -/
def DL_X12_nightGoes_0 : List (Nat × Instr × Nat) := [(0, .aload_n 0, 1), (1, .aload_n 0, 1), (2, .getfield 128, 3), (5, .bipush 120, 2), (7, .iaload, 1), (8, .invokevirtual 365, 3), (11, .iconst 0, 1), (12, .istore_n 1, 1), (13, .iload_n 1, 1), (14, .aload_n 0, 1), (15, .getfield 73, 3), (18, .aload_n 0, 1), (19, .getfield 236, 3), (22, .iaload, 1), (23, .if_icmp .ge 92, 3), (26, .aload_n 0, 1), (27, .getfield 76, 3), (30, .iconst 4, 1), (31, .aload_n 0, 1), (32, .getfield 236, 3), (35, .imul, 1), (36, .iload_n 1, 1), (37, .iadd, 1), (38, .iaload, 1), (39, .istore_n 2, 1), (40, .aload_n 0, 1), (41, .getfield 79, 3), (44, .iconst 4, 1), (45, .aload_n 0, 1), (46, .getfield 236, 3), (49, .imul, 1), (50, .iload_n 1, 1), (51, .iadd, 1), (52, .iaload, 1), (53, .istore_n 3, 1), (54, .aload_n 0, 1), (55, .getfield 128, 3), (58, .bipush 120, 2), (60, .iaload, 1), (61, .aload_n 0, 1)]
set_option maxRecDepth 100000 in
theorem dec_X12_nightGoes_0 : dcs cX12_nightGoes DL_X12_nightGoes_0 = true := by decide +kernel
def DL_X12_nightGoes_1 : List (Nat × Instr × Nat) := [(62, .getfield 82, 3), (65, .iconst 4, 1), (66, .aload_n 0, 1), (67, .getfield 236, 3), (70, .imul, 1), (71, .iload_n 1, 1), (72, .iadd, 1), (73, .iaload, 1), (74, .irem, 1), (75, .ifCond .ne 34, 3), (78, .aload_n 0, 1), (79, .iload_n 2, 1), (80, .iload_n 3, 1), (81, .invokevirtual 354, 3), (84, .ifCond .eq 25, 3), (87, .iload_n 2, 1), (88, .aload_n 0, 1), (89, .getfield 351, 3), (92, .if_icmp .eq 17, 3), (95, .aload_n 0, 1), (96, .iload_n 2, 1), (97, .iload_n 3, 1), (98, .iconst 0, 1), (99, .aload_n 0, 1), (100, .getfield 122, 3), (103, .iload_n 2, 1), (104, .iaload, 1), (105, .invokevirtual 361, 3), (108, .pop, 1), (109, .iinc 1 1, 3), (112, .goto (-99), 3), (115, .aload_n 0, 1), (116, .getfield 128, 3), (119, .bipush 120, 2), (121, .dup2, 1), (122, .iaload, 1), (123, .iconst 1, 1), (124, .iadd, 1), (125, .iastore, 1), (126, .aload_n 0, 1)]
set_option maxRecDepth 100000 in
theorem dec_X12_nightGoes_1 : dcs cX12_nightGoes DL_X12_nightGoes_1 = true := by decide +kernel
def DL_X12_nightGoes_2 : List (Nat × Instr × Nat) := [(127, .getfield 128, 3), (130, .bipush 121, 2), (132, .iconst 0, 1), (133, .iastore, 1), (134, .return_, 1)]
set_option maxRecDepth 100000 in
theorem dec_X12_nightGoes_2 : dcs cX12_nightGoes DL_X12_nightGoes_2 = true := by decide +kernel
theorem lb_X12_nightGoes : lkB yX12_nightGoes cX12_nightGoes 4 (none) 0 := ⟨q_1431, q_14, ⟨by decide, by decide⟩, by decide +kernel⟩
theorem lv_X12_nightGoes : lkV yX12_nightGoes := ⟨q_1430, qs_107⟩
def F_X12_nightGoes_109 (a0 : Nat) (l1 : Int32) (σ : hSt) : Option ((Int32 × hSt) ⊕ (hSt)) :=
cL (l1 + (1 : Int32)) fun v1 =>
some (.inl (v1, σ))
def F_X12_nightGoes_13b (a0 : Nat) (l1 : Int32) (σ : hSt) : Option ((Int32 × hSt) ⊕ (hSt)) :=
cR (σ.2.2 a0 32) (okr kM NM 101) fun z2 =>
cG (inb (σ.1 a0 18) (kM z2).2) <|
if (σ.1 z2 (σ.1 a0 18).toNatClampNeg) ≤ l1 then (
cR (σ.2.2 a0 54) (okr kM NM 101) fun z4 =>
cG (inb (120 : Int32) (kM z4).2) <|
cG (inb (120 : Int32) (kM z4).2) <|
cL (uI σ z4 (120 : Int32).toNatClampNeg ((σ.1 z4 (120 : Int32).toNatClampNeg) + (1 : Int32))) fun σ7 =>
cR (σ7.2.2 a0 54) (okr kM NM 101) fun z8 =>
cG (inb (121 : Int32) (kM z8).2) <|
cL (uI σ7 z8 (121 : Int32).toNatClampNeg (0 : Int32)) fun σ10 =>
some (.inr (σ10))) else (
cR (σ.2.2 a0 33) (okr kM NM 101) fun z11 =>
cG (inb (((4 : Int32) * (σ.1 a0 18)) + l1) (kM z11).2) <|
cL (σ.1 z11 (((4 : Int32) * (σ.1 a0 18)) + l1).toNatClampNeg) fun v13 =>
cR (σ.2.2 a0 34) (okr kM NM 101) fun z14 =>
cG (inb (((4 : Int32) * (σ.1 a0 18)) + l1) (kM z14).2) <|
cL (σ.1 z14 (((4 : Int32) * (σ.1 a0 18)) + l1).toNatClampNeg) fun v16 =>
cR (σ.2.2 a0 54) (okr kM NM 101) fun z17 =>
cG (inb (120 : Int32) (kM z17).2) <|
cR (σ.2.2 a0 35) (okr kM NM 101) fun z19 =>
cG (inb (((4 : Int32) * (σ.1 a0 18)) + l1) (kM z19).2) <|
cG (!decide (σ.1 z19 (((4 : Int32) * (σ.1 a0 18)) + l1).toNatClampNeg = 0)) <|
if ((σ.1 z17 (120 : Int32).toNatClampNeg) - (σ.1 z17 (120 : Int32).toNatClampNeg) / (σ.1 z19 (((4 : Int32) * (σ.1 a0 18)) + l1).toNatClampNeg) * (σ.1 z19 (((4 : Int32) * (σ.1 a0 18)) + l1).toNatClampNeg)) = 0 then (
(F_X12_knows a0 v13 v16 σ).bind fun v23 =>
if v23 = 0 then (
F_X12_nightGoes_109 a0 l1 σ) else (
if v13 = (σ.1 a0 56) then (
F_X12_nightGoes_109 a0 l1 σ) else (
cR (σ.2.2 a0 52) (okr kM NM 101) fun z24 =>
cG (inb v13 (kM z24).2) <|
cC (F_X12_spreads a0 v13 v16 (0 : Int32) (σ.1 z24 v13.toNatClampNeg) σ) fun v27 σ28 =>
F_X12_nightGoes_109 a0 l1 σ28))) else (
F_X12_nightGoes_109 a0 l1 σ))
def S_X12_nightGoes_13 (a0 : Nat) (v : Int32 × hSt) : Option ((Int32 × hSt) ⊕ (hSt)) := F_X12_nightGoes_13b a0 v.1 v.2
def F_X12_nightGoes_13 (a0 : Nat) (l1 : Int32) (σ : hSt) : Option (hSt) := lp (S_X12_nightGoes_13 a0) fuel (l1, σ)
def F_X12_nightGoes (a0 : Nat) (σ : hSt) : Option (hSt) :=
cR (σ.2.2 a0 54) (okr kM NM 101) fun z29 =>
cG (inb (120 : Int32) (kM z29).2) <|
(F_X12_fillsHearers a0 (σ.1 z29 (120 : Int32).toNatClampNeg) σ).bind fun σ32 =>
F_X12_nightGoes_13 a0 (0 : Int32) σ32
section
variable {p : Program} {l : Launch} {e : Env} {s : State} {m : MethodId} {args : Array Value} {below : List Frame} {meth : Method} {c : Code} {D : va_G} {ay : Nat → ClassId} {ad : Nat → Nat}
set_option maxRecDepth 100000 in
set_option maxHeartbeats 4000000 in
theorem B_X12_nightGoes_109 {H : Heap} {locs : List Loc} {ls : Array Slot} {σ0 : hSt} {o : (Int32 × hSt) ⊕ (hSt)} (a0 : Nat) (l1 : Int32) (σ : hSt) (G : Gx p m c cX12_nightGoes 4 s args RX12 D ay NM ad (aN NM ad)) (hm : meth.sig.returnType = none ∧ meth.locks = false) (ok_a0 : okr kM NM 12 a0 = true) (hf : F_X12_nightGoes_109 a0 l1 σ = some o) (hb0 : ∀ (v : Int32 × hSt), o = .inl v → ∀ (H : Heap) (locs : List Loc) (ls : Array Slot), Wd D ay kM NM ad (aN NM ad) s v.2 H locs → lv_has ls 4 [(0, .ref (ad a0)), (1, .int v.1)] → W p l e (rmK 4 102) s m args below meth c H locs 0 0 (MQ below (cV D ay kM NM ad σ0) args s 0 0 (aN NM ad)) (F0 m 13 ls [])) (hr : ∀ x, o = .inr (x) → x = σ0) (w : Wd D ay kM NM ad (aN NM ad) s σ H locs) (hl : lv_has ls 4 [(0, .ref (ad a0)), (1, .int l1)]) : W p l e (rmK 4 102) s m args below meth c H locs 0 0 (MQ below (cV D ay kM NM ad σ0) args s 0 0 (aN NM ad)) (F0 m 109 ls []) := by
  have k_a0 := okr_in ok_a0
  unfold F_X12_nightGoes_109 at hf
  obtain ⟨v1, e_v1, hf⟩ := cL_some hf
  refine lv_iinc (v := v1) (lv' := [(1, .int v1), (0, .ref (ad a0))]) G.hx G.hb (dcs_get dec_X12_nightGoes_1 29 rfl) hl (k := 1) rfl (by rw [e_v1]; rfl) (by decide) rfl (fun ls hl => ?_)
  refine lv_goto (tgt := 13) G.hx G.hb (dcs_get dec_X12_nightGoes_1 30 rfl) (by decide) ?_
  exact hb0 _ (Option.some.inj hf).symm _ _ _ w (lv_sub hl [1, 0] rfl)
set_option maxRecDepth 100000 in
set_option maxHeartbeats 4000000 in
theorem B_X12_nightGoes_13b {H : Heap} {locs : List Loc} {ls : Array Slot} {σ0 : hSt} {o : (Int32 × hSt) ⊕ (hSt)} (a0 : Nat) (l1 : Int32) (σ : hSt) (G : Gx p m c cX12_nightGoes 4 s args RX12 D ay NM ad (aN NM ad)) (hm : meth.sig.returnType = none ∧ meth.locks = false) (ok_a0 : okr kM NM 12 a0 = true) (hf : F_X12_nightGoes_13b a0 l1 σ = some o) (hb0 : ∀ (v : Int32 × hSt), o = .inl v → ∀ (H : Heap) (locs : List Loc) (ls : Array Slot), Wd D ay kM NM ad (aN NM ad) s v.2 H locs → lv_has ls 4 [(0, .ref (ad a0)), (1, .int v.1)] → W p l e (rmK 4 102) s m args below meth c H locs 0 0 (MQ below (cV D ay kM NM ad σ0) args s 0 0 (aN NM ad)) (F0 m 13 ls [])) (hr : ∀ x, o = .inr (x) → x = σ0) (w : Wd D ay kM NM ad (aN NM ad) s σ H locs) (hl : lv_has ls 4 [(0, .ref (ad a0)), (1, .int l1)]) : W p l e (rmK 4 102) s m args below meth c H locs 0 0 (MQ below (cV D ay kM NM ad σ0) args s 0 0 (aN NM ad)) (F0 m 13 ls []) := by
  have k_a0 := okr_in ok_a0
  unfold F_X12_nightGoes_13b at hf
  refine lv_iload_n G.hx G.hb (dcs_get dec_X12_nightGoes_0 8 rfl) rfl (lv_at hl 1 rfl) ?_
  refine lv_aload_n G.hx G.hb (dcs_get dec_X12_nightGoes_0 9 rfl) rfl (lv_at hl 0 rfl) ?_
  obtain ⟨z2, e_z2, ok_z2, hf⟩ := cR_some hf
  have k_z2 := okr_in ok_z2
  refine r_getr (k := 32) cls12 fi_12_32.1 fi_12_32.2 q_1040 G w k_a0.1 k_a0.2 e_z2 (dcs_get dec_X12_nightGoes_0 10 rfl) ?_
  refine lv_aload_n G.hx G.hb (dcs_get dec_X12_nightGoes_0 11 rfl) rfl (lv_at hl 0 rfl) ?_
  refine r_geti (k := 18) cls12 fi_12_18.1 fi_12_18.2 q_1026 G w k_a0.1 k_a0.2 (dcs_get dec_X12_nightGoes_0 12 rfl) ?_
  obtain ⟨h3, hf⟩ := cG_some hf
  refine r_iald G w k_z2.1 k_z2.2 h3 (dcs_get dec_X12_nightGoes_0 13 rfl) ?_
  refine lv_icmp_ge (tgt := 115) G.hx G.hb (dcs_get dec_X12_nightGoes_0 14 rfl) (by decide) (fun hc => ?_) (fun hc => ?_)
  · rw [if_pos hc] at hf
    refine lv_aload_n G.hx G.hb (dcs_get dec_X12_nightGoes_1 31 rfl) rfl (lv_at hl 0 rfl) ?_
    obtain ⟨z4, e_z4, ok_z4, hf⟩ := cR_some hf
    have k_z4 := okr_in ok_z4
    refine r_getr (k := 54) cls12 fi_12_54.1 fi_12_54.2 q_1062 G w k_a0.1 k_a0.2 e_z4 (dcs_get dec_X12_nightGoes_1 32 rfl) ?_
    refine lv_bipush (v := (120 : Int32)) G.hx G.hb (dcs_get dec_X12_nightGoes_1 33 rfl) (by decide) ?_
    refine lv_dup2_11 G.hx G.hb (dcs_get dec_X12_nightGoes_1 34 rfl) rfl rfl ?_
    obtain ⟨h5, hf⟩ := cG_some hf
    refine r_iald G w k_z4.1 k_z4.2 h5 (dcs_get dec_X12_nightGoes_1 35 rfl) ?_
    refine lv_iconst (v := (1 : Int32)) G.hx G.hb (dcs_get dec_X12_nightGoes_1 36 rfl) (by decide) ?_
    refine lv_iadd G.hx G.hb (dcs_get dec_X12_nightGoes_1 37 rfl) ?_
    obtain ⟨h6, hf⟩ := cG_some hf
    obtain ⟨σ7, e_σ7, hf⟩ := cL_some hf
    refine r_iast G w k_z4.1 k_z4.2 h6 (dcs_get dec_X12_nightGoes_1 38 rfl) (fun H locs w => ?_)
    have w := Wd.nm e_σ7 w
    refine lv_aload_n G.hx G.hb (dcs_get dec_X12_nightGoes_1 39 rfl) rfl (lv_at hl 0 rfl) ?_
    obtain ⟨z8, e_z8, ok_z8, hf⟩ := cR_some hf
    have k_z8 := okr_in ok_z8
    refine r_getr (k := 54) cls12 fi_12_54.1 fi_12_54.2 q_1062 G w k_a0.1 k_a0.2 e_z8 (dcs_get dec_X12_nightGoes_2 0 rfl) ?_
    refine lv_bipush (v := (121 : Int32)) G.hx G.hb (dcs_get dec_X12_nightGoes_2 1 rfl) (by decide) ?_
    refine lv_iconst (v := (0 : Int32)) G.hx G.hb (dcs_get dec_X12_nightGoes_2 2 rfl) (by decide) ?_
    obtain ⟨h9, hf⟩ := cG_some hf
    obtain ⟨σ10, e_σ10, hf⟩ := cL_some hf
    refine r_iast G w k_z8.1 k_z8.2 h9 (dcs_get dec_X12_nightGoes_2 3 rfl) (fun H locs w => ?_)
    have w := Wd.nm e_σ10 w
    have e9 := hr _ (Option.some.inj hf).symm
    exact r_vret G w hm e9 (dcs_get dec_X12_nightGoes_2 4 rfl)
  · rw [if_neg hc] at hf
    refine lv_aload_n G.hx G.hb (dcs_get dec_X12_nightGoes_0 15 rfl) rfl (lv_at hl 0 rfl) ?_
    obtain ⟨z11, e_z11, ok_z11, hf⟩ := cR_some hf
    have k_z11 := okr_in ok_z11
    refine r_getr (k := 33) cls12 fi_12_33.1 fi_12_33.2 q_1041 G w k_a0.1 k_a0.2 e_z11 (dcs_get dec_X12_nightGoes_0 16 rfl) ?_
    refine lv_iconst (v := (4 : Int32)) G.hx G.hb (dcs_get dec_X12_nightGoes_0 17 rfl) (by decide) ?_
    refine lv_aload_n G.hx G.hb (dcs_get dec_X12_nightGoes_0 18 rfl) rfl (lv_at hl 0 rfl) ?_
    refine r_geti (k := 18) cls12 fi_12_18.1 fi_12_18.2 q_1026 G w k_a0.1 k_a0.2 (dcs_get dec_X12_nightGoes_0 19 rfl) ?_
    refine lv_imul G.hx G.hb (dcs_get dec_X12_nightGoes_0 20 rfl) ?_
    refine lv_iload_n G.hx G.hb (dcs_get dec_X12_nightGoes_0 21 rfl) rfl (lv_at hl 1 rfl) ?_
    refine lv_iadd G.hx G.hb (dcs_get dec_X12_nightGoes_0 22 rfl) ?_
    obtain ⟨h12, hf⟩ := cG_some hf
    refine r_iald G w k_z11.1 k_z11.2 h12 (dcs_get dec_X12_nightGoes_0 23 rfl) ?_
    obtain ⟨v13, e_v13, hf⟩ := cL_some hf
    refine r_topi e_v13 ?_
    refine lv_istore_n (lv' := [(2, .int v13), (0, .ref (ad a0)), (1, .int l1)]) G.hx G.hb (dcs_get dec_X12_nightGoes_0 24 rfl) rfl hl (by decide) rfl (fun ls hl => ?_)
    refine lv_aload_n G.hx G.hb (dcs_get dec_X12_nightGoes_0 25 rfl) rfl (lv_at hl 1 rfl) ?_
    obtain ⟨z14, e_z14, ok_z14, hf⟩ := cR_some hf
    have k_z14 := okr_in ok_z14
    refine r_getr (k := 34) cls12 fi_12_34.1 fi_12_34.2 q_1042 G w k_a0.1 k_a0.2 e_z14 (dcs_get dec_X12_nightGoes_0 26 rfl) ?_
    refine lv_iconst (v := (4 : Int32)) G.hx G.hb (dcs_get dec_X12_nightGoes_0 27 rfl) (by decide) ?_
    refine lv_aload_n G.hx G.hb (dcs_get dec_X12_nightGoes_0 28 rfl) rfl (lv_at hl 1 rfl) ?_
    refine r_geti (k := 18) cls12 fi_12_18.1 fi_12_18.2 q_1026 G w k_a0.1 k_a0.2 (dcs_get dec_X12_nightGoes_0 29 rfl) ?_
    refine lv_imul G.hx G.hb (dcs_get dec_X12_nightGoes_0 30 rfl) ?_
    refine lv_iload_n G.hx G.hb (dcs_get dec_X12_nightGoes_0 31 rfl) rfl (lv_at hl 2 rfl) ?_
    refine lv_iadd G.hx G.hb (dcs_get dec_X12_nightGoes_0 32 rfl) ?_
    obtain ⟨h15, hf⟩ := cG_some hf
    refine r_iald G w k_z14.1 k_z14.2 h15 (dcs_get dec_X12_nightGoes_0 33 rfl) ?_
    obtain ⟨v16, e_v16, hf⟩ := cL_some hf
    refine r_topi e_v16 ?_
    refine lv_istore_n (lv' := [(3, .int v16), (2, .int v13), (0, .ref (ad a0)), (1, .int l1)]) G.hx G.hb (dcs_get dec_X12_nightGoes_0 34 rfl) rfl hl (by decide) rfl (fun ls hl => ?_)
    refine lv_aload_n G.hx G.hb (dcs_get dec_X12_nightGoes_0 35 rfl) rfl (lv_at hl 2 rfl) ?_
    obtain ⟨z17, e_z17, ok_z17, hf⟩ := cR_some hf
    have k_z17 := okr_in ok_z17
    refine r_getr (k := 54) cls12 fi_12_54.1 fi_12_54.2 q_1062 G w k_a0.1 k_a0.2 e_z17 (dcs_get dec_X12_nightGoes_0 36 rfl) ?_
    refine lv_bipush (v := (120 : Int32)) G.hx G.hb (dcs_get dec_X12_nightGoes_0 37 rfl) (by decide) ?_
    obtain ⟨h18, hf⟩ := cG_some hf
    refine r_iald G w k_z17.1 k_z17.2 h18 (dcs_get dec_X12_nightGoes_0 38 rfl) ?_
    refine lv_aload_n G.hx G.hb (dcs_get dec_X12_nightGoes_0 39 rfl) rfl (lv_at hl 2 rfl) ?_
    obtain ⟨z19, e_z19, ok_z19, hf⟩ := cR_some hf
    have k_z19 := okr_in ok_z19
    refine r_getr (k := 35) cls12 fi_12_35.1 fi_12_35.2 q_1043 G w k_a0.1 k_a0.2 e_z19 (dcs_get dec_X12_nightGoes_1 0 rfl) ?_
    refine lv_iconst (v := (4 : Int32)) G.hx G.hb (dcs_get dec_X12_nightGoes_1 1 rfl) (by decide) ?_
    refine lv_aload_n G.hx G.hb (dcs_get dec_X12_nightGoes_1 2 rfl) rfl (lv_at hl 2 rfl) ?_
    refine r_geti (k := 18) cls12 fi_12_18.1 fi_12_18.2 q_1026 G w k_a0.1 k_a0.2 (dcs_get dec_X12_nightGoes_1 3 rfl) ?_
    refine lv_imul G.hx G.hb (dcs_get dec_X12_nightGoes_1 4 rfl) ?_
    refine lv_iload_n G.hx G.hb (dcs_get dec_X12_nightGoes_1 5 rfl) rfl (lv_at hl 3 rfl) ?_
    refine lv_iadd G.hx G.hb (dcs_get dec_X12_nightGoes_1 6 rfl) ?_
    obtain ⟨h20, hf⟩ := cG_some hf
    refine r_iald G w k_z19.1 k_z19.2 h20 (dcs_get dec_X12_nightGoes_1 7 rfl) ?_
    obtain ⟨h21, hf⟩ := cG_some hf
    refine lv_irem G.hx G.hb (dcs_get dec_X12_nightGoes_1 8 rfl) (by simpa using h21) ?_
    refine lv_if_ne (tgt := 109) G.hx G.hb (dcs_get dec_X12_nightGoes_1 9 rfl) (by decide) (fun hc => ?_) (fun hc => ?_)
    · rw [if_neg hc] at hf
      exact B_X12_nightGoes_109 a0 l1 σ G hm ok_a0 hf hb0 hr w (lv_sub hl [2, 3] rfl)
    · rw [if_pos hc] at hf
      refine lv_aload_n G.hx G.hb (dcs_get dec_X12_nightGoes_1 10 rfl) rfl (lv_at hl 2 rfl) ?_
      refine lv_iload_n G.hx G.hb (dcs_get dec_X12_nightGoes_1 11 rfl) rfl (lv_at hl 1 rfl) ?_
      refine lv_iload_n G.hx G.hb (dcs_get dec_X12_nightGoes_1 12 rfl) rfl (lv_at hl 0 rfl) ?_
      obtain ⟨v23, h22, hf⟩ := cB_some hf
      refine a_i (k_V (As := [.int v13, .int v16]) (rest := []) cls12 lb_X12_knows lv_X12_knows q_1392 (C_X12_knows G.2.2.1 a0 v13 v16 σ h22 ok_a0) ⟨(Nat.le_of_ble_eq_true rfl), (Nat.le_of_ble_eq_true rfl)⟩ G w k_a0.1 k_a0.2 rfl rfl hl.1 (Nat.le_of_ble_eq_true rfl) (dcs_get dec_X12_nightGoes_1 13 rfl) ⟨Nat.le_refl _, Nat.le_refl _⟩) G w (fun H locs w => ?_)
      refine lv_if_eq (tgt := 109) G.hx G.hb (dcs_get dec_X12_nightGoes_1 14 rfl) (by decide) (fun hc => ?_) (fun hc => ?_)
      · rw [if_pos hc] at hf
        exact B_X12_nightGoes_109 a0 l1 σ G hm ok_a0 hf hb0 hr w (lv_sub hl [2, 3] rfl)
      · rw [if_neg hc] at hf
        refine lv_iload_n G.hx G.hb (dcs_get dec_X12_nightGoes_1 15 rfl) rfl (lv_at hl 1 rfl) ?_
        refine lv_aload_n G.hx G.hb (dcs_get dec_X12_nightGoes_1 16 rfl) rfl (lv_at hl 2 rfl) ?_
        refine r_geti (k := 56) cls12 fi_12_56.1 fi_12_56.2 q_1064 G w k_a0.1 k_a0.2 (dcs_get dec_X12_nightGoes_1 17 rfl) ?_
        refine lv_icmp_eq (tgt := 109) G.hx G.hb (dcs_get dec_X12_nightGoes_1 18 rfl) (by decide) (fun hc => ?_) (fun hc => ?_)
        · rw [if_pos hc] at hf
          exact B_X12_nightGoes_109 a0 l1 σ G hm ok_a0 hf hb0 hr w (lv_sub hl [2, 3] rfl)
        · rw [if_neg hc] at hf
          refine lv_aload_n G.hx G.hb (dcs_get dec_X12_nightGoes_1 19 rfl) rfl (lv_at hl 2 rfl) ?_
          refine lv_iload_n G.hx G.hb (dcs_get dec_X12_nightGoes_1 20 rfl) rfl (lv_at hl 1 rfl) ?_
          refine lv_iload_n G.hx G.hb (dcs_get dec_X12_nightGoes_1 21 rfl) rfl (lv_at hl 0 rfl) ?_
          refine lv_iconst (v := (0 : Int32)) G.hx G.hb (dcs_get dec_X12_nightGoes_1 22 rfl) (by decide) ?_
          refine lv_aload_n G.hx G.hb (dcs_get dec_X12_nightGoes_1 23 rfl) rfl (lv_at hl 2 rfl) ?_
          obtain ⟨z24, e_z24, ok_z24, hf⟩ := cR_some hf
          have k_z24 := okr_in ok_z24
          refine r_getr (k := 52) cls12 fi_12_52.1 fi_12_52.2 q_1060 G w k_a0.1 k_a0.2 e_z24 (dcs_get dec_X12_nightGoes_1 24 rfl) ?_
          refine lv_iload_n G.hx G.hb (dcs_get dec_X12_nightGoes_1 25 rfl) rfl (lv_at hl 1 rfl) ?_
          obtain ⟨h25, hf⟩ := cG_some hf
          refine r_iald G w k_z24.1 k_z24.2 h25 (dcs_get dec_X12_nightGoes_1 26 rfl) ?_
          obtain ⟨v27, σ28, h26, hf⟩ := cC_some hf
          refine a_i (k_V (As := [.int v13, .int v16, .int (0 : Int32), .int (σ.1 z24 v13.toNatClampNeg)]) (rest := []) cls12 lb_X12_spreads lv_X12_spreads q_1408 (C_X12_spreads G.2.2.1 a0 v13 v16 (0 : Int32) (σ.1 z24 v13.toNatClampNeg) σ h26 ok_a0) ⟨(Nat.le_of_ble_eq_true rfl), (Nat.le_of_ble_eq_true rfl)⟩ G w k_a0.1 k_a0.2 rfl rfl hl.1 (Nat.le_of_ble_eq_true rfl) (dcs_get dec_X12_nightGoes_1 27 rfl) ⟨Nat.le_refl _, Nat.le_refl _⟩) G w (fun H locs w => ?_)
          refine lv_pop G.hx G.hb (dcs_get dec_X12_nightGoes_1 28 rfl) rfl ?_
          exact B_X12_nightGoes_109 a0 l1 σ28 G hm ok_a0 hf hb0 hr w (lv_sub hl [2, 3] rfl)
set_option maxRecDepth 100000 in
set_option maxHeartbeats 4000000 in
theorem H_X12_nightGoes_13 {σ0 : hSt} (a0 : Nat) (G : Gx p m c cX12_nightGoes 4 s args RX12 D ay NM ad (aN NM ad)) (hm : meth.sig.returnType = none ∧ meth.locks = false) (ok_a0 : okr kM NM 12 a0 = true)  : ∀ (k : Nat) (v : Int32 × hSt), lp (S_X12_nightGoes_13 a0) k v = some σ0 → ∀ (H : Heap) (locs : List Loc) (ls : Array Slot), Wd D ay kM NM ad (aN NM ad) s v.2 H locs → lv_has ls 4 [(0, .ref (ad a0)), (1, .int v.1)] → W p l e (rmK 4 102) s m args below meth c H locs 0 0 (MQ below (cV D ay kM NM ad σ0) args s 0 0 (aN NM ad)) (F0 m 13 ls []) := by
  intro k
  induction k with
  | zero => intro v hf; cases hf
  | succ k ih =>
    intro v hf H locs ls w hl
    obtain ⟨o1, h1, h2, h3⟩ := lp_some hf
    exact B_X12_nightGoes_13b a0 v.1 v.2 G hm ok_a0 h1  (fun v' e => ih v' (h2 v' e)) (fun x e => h3 x e) w hl
set_option maxRecDepth 100000 in
set_option maxHeartbeats 4000000 in
theorem B_X12_nightGoes_13 {H : Heap} {locs : List Loc} {ls : Array Slot} {σ0 : hSt} (a0 : Nat) (l1 : Int32) (σ : hSt) (G : Gx p m c cX12_nightGoes 4 s args RX12 D ay NM ad (aN NM ad)) (hm : meth.sig.returnType = none ∧ meth.locks = false) (ok_a0 : okr kM NM 12 a0 = true) (hf : F_X12_nightGoes_13 a0 l1 σ = some σ0)  (w : Wd D ay kM NM ad (aN NM ad) s σ H locs) (hl : lv_has ls 4 [(0, .ref (ad a0)), (1, .int l1)]) : W p l e (rmK 4 102) s m args below meth c H locs 0 0 (MQ below (cV D ay kM NM ad σ0) args s 0 0 (aN NM ad)) (F0 m 13 ls []) := by
  unfold F_X12_nightGoes_13 at hf
  exact H_X12_nightGoes_13 a0  G hm ok_a0  fuel (l1, σ) hf _ _ _ w hl
set_option maxRecDepth 100000 in
set_option maxHeartbeats 4000000 in
theorem B_X12_nightGoes_0 {H : Heap} {locs : List Loc} {ls : Array Slot} {σ0 : hSt} (a0 : Nat) (σ : hSt) (G : Gx p m c cX12_nightGoes 4 s args RX12 D ay NM ad (aN NM ad)) (hm : meth.sig.returnType = none ∧ meth.locks = false) (ok_a0 : okr kM NM 12 a0 = true) (hf : F_X12_nightGoes a0 σ = some σ0)  (w : Wd D ay kM NM ad (aN NM ad) s σ H locs) (hl : lv_has ls 4 [(0, .ref (ad a0))]) : W p l e (rmK 4 102) s m args below meth c H locs 0 0 (MQ below (cV D ay kM NM ad σ0) args s 0 0 (aN NM ad)) (F0 m 0 ls []) := by
  have k_a0 := okr_in ok_a0
  unfold F_X12_nightGoes at hf
  refine lv_aload_n G.hx G.hb (dcs_get dec_X12_nightGoes_0 0 rfl) rfl (lv_at hl 0 rfl) ?_
  refine lv_aload_n G.hx G.hb (dcs_get dec_X12_nightGoes_0 1 rfl) rfl (lv_at hl 0 rfl) ?_
  obtain ⟨z29, e_z29, ok_z29, hf⟩ := cR_some hf
  have k_z29 := okr_in ok_z29
  refine r_getr (k := 54) cls12 fi_12_54.1 fi_12_54.2 q_1062 G w k_a0.1 k_a0.2 e_z29 (dcs_get dec_X12_nightGoes_0 2 rfl) ?_
  refine lv_bipush (v := (120 : Int32)) G.hx G.hb (dcs_get dec_X12_nightGoes_0 3 rfl) (by decide) ?_
  obtain ⟨h30, hf⟩ := cG_some hf
  refine r_iald G w k_z29.1 k_z29.2 h30 (dcs_get dec_X12_nightGoes_0 4 rfl) ?_
  obtain ⟨σ32, h31, hf⟩ := cB_some hf
  refine a_v (k_V (As := [.int (σ.1 z29 (120 : Int32).toNatClampNeg)]) (rest := []) cls12 lb_X12_fillsHearers lv_X12_fillsHearers q_1400 (C_X12_fillsHearers G.2.2.1 a0 (σ.1 z29 (120 : Int32).toNatClampNeg) σ h31 ok_a0) ⟨(Nat.le_of_ble_eq_true rfl), (Nat.le_of_ble_eq_true rfl)⟩ G w k_a0.1 k_a0.2 rfl rfl hl.1 (Nat.le_of_ble_eq_true rfl) (dcs_get dec_X12_nightGoes_0 5 rfl) ⟨Nat.le_refl _, Nat.le_refl _⟩) G w (fun H locs w => ?_)
  refine lv_iconst (v := (0 : Int32)) G.hx G.hb (dcs_get dec_X12_nightGoes_0 6 rfl) (by decide) ?_
  refine lv_istore_n (lv' := [(1, .int (0 : Int32)), (0, .ref (ad a0))]) G.hx G.hb (dcs_get dec_X12_nightGoes_0 7 rfl) rfl hl (by decide) rfl (fun ls hl => ?_)
  exact B_X12_nightGoes_13 a0 (0 : Int32) σ32 G hm ok_a0 hf  w (lv_sub hl [1, 0] rfl)
end
set_option maxRecDepth 100000 in
set_option maxHeartbeats 4000000 in
theorem C_X12_nightGoes {l : Launch} {D : va_G} {ay : Nat → ClassId} {ad : Nat → Nat} (hi : hInj NM ad) (a0 : Nat) (σ : hSt) {σ0 : hSt} (hf : F_X12_nightGoes a0 σ = some σ0) (ok_a0 : okr kM NM 12 a0 = true) : hM l D ay kM NM ad yX12_nightGoes cX12_nightGoes 4 (none) (rmK 4 102) [.ref (ad a0)] σ (cV D ay kM NM ad σ0) := by
  refine hM_in (by decide) hi (Nat.le_of_ble_eq_true rfl) ?_
  intro p e s m below meth c G hm w ls hl
  exact B_X12_nightGoes_0 a0 σ G hm ok_a0 hf w (lv_sub hl [0] rfl)

/-! HillDrumsModel.dayByRule()V -/
def DL_X12_dayByRule_0 : List (Nat × Instr × Nat) := [(0, .aload_n 0, 1), (1, .aload_n 0, 1), (2, .getfield 128, 3), (5, .bipush 120, 2), (7, .iaload, 1), (8, .invokevirtual 365, 3), (11, .iconst 0, 1), (12, .istore_n 1, 1), (13, .iload_n 1, 1), (14, .aload_n 0, 1), (15, .getfield 49, 3), (18, .aload_n 0, 1), (19, .getfield 236, 3), (22, .iaload, 1), (23, .if_icmp .ge 56, 3), (26, .iconst 0, 1), (27, .istore_n 2, 1), (28, .iload_n 2, 1), (29, .aload_n 0, 1), (30, .getfield 58, 3), (33, .aload_n 0, 1), (34, .getfield 236, 3), (37, .iaload, 1), (38, .if_icmp .ge 35, 3), (41, .iload_n 1, 1), (42, .aload_n 0, 1), (43, .getfield 351, 3), (46, .if_icmp .eq 21, 3), (49, .aload_n 0, 1), (50, .iload_n 1, 1), (51, .iload_n 2, 1), (52, .iconst 0, 1), (53, .invokevirtual 368, 3), (56, .ifCond .eq 11, 3), (59, .aload_n 0, 1), (60, .iload_n 1, 1), (61, .iload_n 2, 1), (62, .iconst 0, 1), (63, .invokevirtual 371, 3), (66, .pop, 1)]
set_option maxRecDepth 100000 in
theorem dec_X12_dayByRule_0 : dcs cX12_dayByRule DL_X12_dayByRule_0 = true := by decide +kernel
def DL_X12_dayByRule_1 : List (Nat × Instr × Nat) := [(67, .iinc 2 1, 3), (70, .goto (-42), 3), (73, .iinc 1 1, 3), (76, .goto (-63), 3), (79, .aload_n 0, 1), (80, .invokevirtual 374, 3), (83, .return_, 1)]
set_option maxRecDepth 100000 in
theorem dec_X12_dayByRule_1 : dcs cX12_dayByRule DL_X12_dayByRule_1 = true := by decide +kernel
theorem lb_X12_dayByRule : lkB yX12_dayByRule cX12_dayByRule 3 (none) 0 := ⟨q_1439, q_14, ⟨by decide, by decide⟩, by decide +kernel⟩
theorem lv_X12_dayByRule : lkV yX12_dayByRule := ⟨q_1438, qs_108⟩
def F_X12_dayByRule_67 (a0 : Nat) (l1 : Int32) (l2 : Int32) (σ : hSt) : Option ((Int32 × hSt) ⊕ ((Int32 × hSt) ⊕ (hSt))) :=
cL (l2 + (1 : Int32)) fun v1 =>
some (.inl (v1, σ))
def F_X12_dayByRule_28b (a0 : Nat) (l1 : Int32) (l2 : Int32) (σ : hSt) : Option ((Int32 × hSt) ⊕ ((Int32 × hSt) ⊕ (hSt))) :=
cR (σ.2.2 a0 27) (okr kM NM 101) fun z2 =>
cG (inb (σ.1 a0 18) (kM z2).2) <|
if (σ.1 z2 (σ.1 a0 18).toNatClampNeg) ≤ l2 then (
cL (l1 + (1 : Int32)) fun v4 =>
some (.inr (.inl (v4, σ)))) else (
if l1 = (σ.1 a0 56) then (
F_X12_dayByRule_67 a0 l1 l2 σ) else (
(F_X12_isLawful a0 l1 l2 (0 : Int32) σ).bind fun v6 =>
if v6 = 0 then (
F_X12_dayByRule_67 a0 l1 l2 σ) else (
cC (F_X12_drumsNow a0 l1 l2 (0 : Int32) σ) fun v8 σ9 =>
F_X12_dayByRule_67 a0 l1 l2 σ9)))
def S_X12_dayByRule_28 (a0 : Nat) (l1 : Int32) (v : Int32 × hSt) : Option ((Int32 × hSt) ⊕ ((Int32 × hSt) ⊕ (hSt))) := F_X12_dayByRule_28b a0 l1 v.1 v.2
def F_X12_dayByRule_28 (a0 : Nat) (l1 : Int32) (l2 : Int32) (σ : hSt) : Option ((Int32 × hSt) ⊕ (hSt)) := lp (S_X12_dayByRule_28 a0 l1) fuel (l2, σ)
def F_X12_dayByRule_13b (a0 : Nat) (l1 : Int32) (σ : hSt) : Option ((Int32 × hSt) ⊕ (hSt)) :=
cR (σ.2.2 a0 24) (okr kM NM 101) fun z10 =>
cG (inb (σ.1 a0 18) (kM z10).2) <|
if (σ.1 z10 (σ.1 a0 18).toNatClampNeg) ≤ l1 then (
(F_X12_nightGoes a0 σ).bind fun σ13 =>
some (.inr (σ13))) else (
F_X12_dayByRule_28 a0 l1 (0 : Int32) σ)
def S_X12_dayByRule_13 (a0 : Nat) (v : Int32 × hSt) : Option ((Int32 × hSt) ⊕ (hSt)) := F_X12_dayByRule_13b a0 v.1 v.2
def F_X12_dayByRule_13 (a0 : Nat) (l1 : Int32) (σ : hSt) : Option (hSt) := lp (S_X12_dayByRule_13 a0) fuel (l1, σ)
def F_X12_dayByRule (a0 : Nat) (σ : hSt) : Option (hSt) :=
cR (σ.2.2 a0 54) (okr kM NM 101) fun z14 =>
cG (inb (120 : Int32) (kM z14).2) <|
(F_X12_fillsHearers a0 (σ.1 z14 (120 : Int32).toNatClampNeg) σ).bind fun σ17 =>
F_X12_dayByRule_13 a0 (0 : Int32) σ17
section
variable {p : Program} {l : Launch} {e : Env} {s : State} {m : MethodId} {args : Array Value} {below : List Frame} {meth : Method} {c : Code} {D : va_G} {ay : Nat → ClassId} {ad : Nat → Nat}
set_option maxRecDepth 100000 in
set_option maxHeartbeats 4000000 in
theorem B_X12_dayByRule_67 {H : Heap} {locs : List Loc} {ls : Array Slot} {σ0 : hSt} {o : (Int32 × hSt) ⊕ ((Int32 × hSt) ⊕ (hSt))} (a0 : Nat) (l1 : Int32) (l2 : Int32) (σ : hSt) (G : Gx p m c cX12_dayByRule 3 s args RX12 D ay NM ad (aN NM ad)) (hm : meth.sig.returnType = none ∧ meth.locks = false) (ok_a0 : okr kM NM 12 a0 = true) (hf : F_X12_dayByRule_67 a0 l1 l2 σ = some o) (hb0 : ∀ (v : Int32 × hSt), o = .inr (.inl v) → ∀ (H : Heap) (locs : List Loc) (ls : Array Slot), Wd D ay kM NM ad (aN NM ad) s v.2 H locs → lv_has ls 3 [(0, .ref (ad a0)), (1, .int v.1)] → W p l e (rmK 5 125) s m args below meth c H locs 0 0 (MQ below (cV D ay kM NM ad σ0) args s 0 0 (aN NM ad)) (F0 m 13 ls [])) (hb1 : ∀ (v : Int32 × hSt), o = .inl v → ∀ (H : Heap) (locs : List Loc) (ls : Array Slot), Wd D ay kM NM ad (aN NM ad) s v.2 H locs → lv_has ls 3 [(0, .ref (ad a0)), (1, .int l1), (2, .int v.1)] → W p l e (rmK 5 125) s m args below meth c H locs 0 0 (MQ below (cV D ay kM NM ad σ0) args s 0 0 (aN NM ad)) (F0 m 28 ls [])) (hr : ∀ x, o = .inr (.inr (x)) → x = σ0) (w : Wd D ay kM NM ad (aN NM ad) s σ H locs) (hl : lv_has ls 3 [(0, .ref (ad a0)), (1, .int l1), (2, .int l2)]) : W p l e (rmK 5 125) s m args below meth c H locs 0 0 (MQ below (cV D ay kM NM ad σ0) args s 0 0 (aN NM ad)) (F0 m 67 ls []) := by
  have k_a0 := okr_in ok_a0
  unfold F_X12_dayByRule_67 at hf
  obtain ⟨v1, e_v1, hf⟩ := cL_some hf
  refine lv_iinc (v := v1) (lv' := [(2, .int v1), (0, .ref (ad a0)), (1, .int l1)]) G.hx G.hb (dcs_get dec_X12_dayByRule_1 0 rfl) hl (k := 2) rfl (by rw [e_v1]; rfl) (by decide) rfl (fun ls hl => ?_)
  refine lv_goto (tgt := 28) G.hx G.hb (dcs_get dec_X12_dayByRule_1 1 rfl) (by decide) ?_
  exact hb1 _ (Option.some.inj hf).symm _ _ _ w (lv_sub hl [1, 2, 0] rfl)
set_option maxRecDepth 100000 in
set_option maxHeartbeats 4000000 in
theorem B_X12_dayByRule_28b {H : Heap} {locs : List Loc} {ls : Array Slot} {σ0 : hSt} {o : (Int32 × hSt) ⊕ ((Int32 × hSt) ⊕ (hSt))} (a0 : Nat) (l1 : Int32) (l2 : Int32) (σ : hSt) (G : Gx p m c cX12_dayByRule 3 s args RX12 D ay NM ad (aN NM ad)) (hm : meth.sig.returnType = none ∧ meth.locks = false) (ok_a0 : okr kM NM 12 a0 = true) (hf : F_X12_dayByRule_28b a0 l1 l2 σ = some o) (hb0 : ∀ (v : Int32 × hSt), o = .inr (.inl v) → ∀ (H : Heap) (locs : List Loc) (ls : Array Slot), Wd D ay kM NM ad (aN NM ad) s v.2 H locs → lv_has ls 3 [(0, .ref (ad a0)), (1, .int v.1)] → W p l e (rmK 5 125) s m args below meth c H locs 0 0 (MQ below (cV D ay kM NM ad σ0) args s 0 0 (aN NM ad)) (F0 m 13 ls [])) (hb1 : ∀ (v : Int32 × hSt), o = .inl v → ∀ (H : Heap) (locs : List Loc) (ls : Array Slot), Wd D ay kM NM ad (aN NM ad) s v.2 H locs → lv_has ls 3 [(0, .ref (ad a0)), (1, .int l1), (2, .int v.1)] → W p l e (rmK 5 125) s m args below meth c H locs 0 0 (MQ below (cV D ay kM NM ad σ0) args s 0 0 (aN NM ad)) (F0 m 28 ls [])) (hr : ∀ x, o = .inr (.inr (x)) → x = σ0) (w : Wd D ay kM NM ad (aN NM ad) s σ H locs) (hl : lv_has ls 3 [(0, .ref (ad a0)), (1, .int l1), (2, .int l2)]) : W p l e (rmK 5 125) s m args below meth c H locs 0 0 (MQ below (cV D ay kM NM ad σ0) args s 0 0 (aN NM ad)) (F0 m 28 ls []) := by
  have k_a0 := okr_in ok_a0
  unfold F_X12_dayByRule_28b at hf
  refine lv_iload_n G.hx G.hb (dcs_get dec_X12_dayByRule_0 17 rfl) rfl (lv_at hl 2 rfl) ?_
  refine lv_aload_n G.hx G.hb (dcs_get dec_X12_dayByRule_0 18 rfl) rfl (lv_at hl 0 rfl) ?_
  obtain ⟨z2, e_z2, ok_z2, hf⟩ := cR_some hf
  have k_z2 := okr_in ok_z2
  refine r_getr (k := 27) cls12 fi_12_27.1 fi_12_27.2 q_1035 G w k_a0.1 k_a0.2 e_z2 (dcs_get dec_X12_dayByRule_0 19 rfl) ?_
  refine lv_aload_n G.hx G.hb (dcs_get dec_X12_dayByRule_0 20 rfl) rfl (lv_at hl 0 rfl) ?_
  refine r_geti (k := 18) cls12 fi_12_18.1 fi_12_18.2 q_1026 G w k_a0.1 k_a0.2 (dcs_get dec_X12_dayByRule_0 21 rfl) ?_
  obtain ⟨h3, hf⟩ := cG_some hf
  refine r_iald G w k_z2.1 k_z2.2 h3 (dcs_get dec_X12_dayByRule_0 22 rfl) ?_
  refine lv_icmp_ge (tgt := 73) G.hx G.hb (dcs_get dec_X12_dayByRule_0 23 rfl) (by decide) (fun hc => ?_) (fun hc => ?_)
  · rw [if_pos hc] at hf
    obtain ⟨v4, e_v4, hf⟩ := cL_some hf
    refine lv_iinc (v := v4) (lv' := [(1, .int v4), (0, .ref (ad a0)), (2, .int l2)]) G.hx G.hb (dcs_get dec_X12_dayByRule_1 2 rfl) hl (k := 1) rfl (by rw [e_v4]; rfl) (by decide) rfl (fun ls hl => ?_)
    refine lv_goto (tgt := 13) G.hx G.hb (dcs_get dec_X12_dayByRule_1 3 rfl) (by decide) ?_
    exact hb0 _ (Option.some.inj hf).symm _ _ _ w (lv_sub hl [1, 0] rfl)
  · rw [if_neg hc] at hf
    refine lv_iload_n G.hx G.hb (dcs_get dec_X12_dayByRule_0 24 rfl) rfl (lv_at hl 1 rfl) ?_
    refine lv_aload_n G.hx G.hb (dcs_get dec_X12_dayByRule_0 25 rfl) rfl (lv_at hl 0 rfl) ?_
    refine r_geti (k := 56) cls12 fi_12_56.1 fi_12_56.2 q_1064 G w k_a0.1 k_a0.2 (dcs_get dec_X12_dayByRule_0 26 rfl) ?_
    refine lv_icmp_eq (tgt := 67) G.hx G.hb (dcs_get dec_X12_dayByRule_0 27 rfl) (by decide) (fun hc => ?_) (fun hc => ?_)
    · rw [if_pos hc] at hf
      exact B_X12_dayByRule_67 a0 l1 l2 σ G hm ok_a0 hf hb0 hb1 hr w (lv_sub hl [0, 1, 2] rfl)
    · rw [if_neg hc] at hf
      refine lv_aload_n G.hx G.hb (dcs_get dec_X12_dayByRule_0 28 rfl) rfl (lv_at hl 0 rfl) ?_
      refine lv_iload_n G.hx G.hb (dcs_get dec_X12_dayByRule_0 29 rfl) rfl (lv_at hl 1 rfl) ?_
      refine lv_iload_n G.hx G.hb (dcs_get dec_X12_dayByRule_0 30 rfl) rfl (lv_at hl 2 rfl) ?_
      refine lv_iconst (v := (0 : Int32)) G.hx G.hb (dcs_get dec_X12_dayByRule_0 31 rfl) (by decide) ?_
      obtain ⟨v6, h5, hf⟩ := cB_some hf
      refine a_i (k_V (As := [.int l1, .int l2, .int (0 : Int32)]) (rest := []) cls12 lb_X12_isLawful lv_X12_isLawful q_1440 (C_X12_isLawful G.2.2.1 a0 l1 l2 (0 : Int32) σ h5 ok_a0) ⟨(Nat.le_of_ble_eq_true rfl), (Nat.le_of_ble_eq_true rfl)⟩ G w k_a0.1 k_a0.2 rfl rfl hl.1 (Nat.le_of_ble_eq_true rfl) (dcs_get dec_X12_dayByRule_0 32 rfl) ⟨Nat.le_refl _, Nat.le_refl _⟩) G w (fun H locs w => ?_)
      refine lv_if_eq (tgt := 67) G.hx G.hb (dcs_get dec_X12_dayByRule_0 33 rfl) (by decide) (fun hc => ?_) (fun hc => ?_)
      · rw [if_pos hc] at hf
        exact B_X12_dayByRule_67 a0 l1 l2 σ G hm ok_a0 hf hb0 hb1 hr w (lv_sub hl [0, 1, 2] rfl)
      · rw [if_neg hc] at hf
        refine lv_aload_n G.hx G.hb (dcs_get dec_X12_dayByRule_0 34 rfl) rfl (lv_at hl 0 rfl) ?_
        refine lv_iload_n G.hx G.hb (dcs_get dec_X12_dayByRule_0 35 rfl) rfl (lv_at hl 1 rfl) ?_
        refine lv_iload_n G.hx G.hb (dcs_get dec_X12_dayByRule_0 36 rfl) rfl (lv_at hl 2 rfl) ?_
        refine lv_iconst (v := (0 : Int32)) G.hx G.hb (dcs_get dec_X12_dayByRule_0 37 rfl) (by decide) ?_
        obtain ⟨v8, σ9, h7, hf⟩ := cC_some hf
        refine a_i (k_V (As := [.int l1, .int l2, .int (0 : Int32)]) (rest := []) cls12 lb_X12_drumsNow lv_X12_drumsNow q_1404 (C_X12_drumsNow G.2.2.1 a0 l1 l2 (0 : Int32) σ h7 ok_a0) ⟨(Nat.le_of_ble_eq_true rfl), (Nat.le_of_ble_eq_true rfl)⟩ G w k_a0.1 k_a0.2 rfl rfl hl.1 (Nat.le_of_ble_eq_true rfl) (dcs_get dec_X12_dayByRule_0 38 rfl) ⟨Nat.le_refl _, Nat.le_refl _⟩) G w (fun H locs w => ?_)
        refine lv_pop G.hx G.hb (dcs_get dec_X12_dayByRule_0 39 rfl) rfl ?_
        exact B_X12_dayByRule_67 a0 l1 l2 σ9 G hm ok_a0 hf hb0 hb1 hr w (lv_sub hl [0, 1, 2] rfl)
set_option maxRecDepth 100000 in
set_option maxHeartbeats 4000000 in
theorem H_X12_dayByRule_28 {σ0 : hSt} {o : (Int32 × hSt) ⊕ (hSt)} (a0 : Nat) (l1 : Int32) (G : Gx p m c cX12_dayByRule 3 s args RX12 D ay NM ad (aN NM ad)) (hm : meth.sig.returnType = none ∧ meth.locks = false) (ok_a0 : okr kM NM 12 a0 = true) (hb0 : ∀ (v : Int32 × hSt), o = .inl v → ∀ (H : Heap) (locs : List Loc) (ls : Array Slot), Wd D ay kM NM ad (aN NM ad) s v.2 H locs → lv_has ls 3 [(0, .ref (ad a0)), (1, .int v.1)] → W p l e (rmK 5 125) s m args below meth c H locs 0 0 (MQ below (cV D ay kM NM ad σ0) args s 0 0 (aN NM ad)) (F0 m 13 ls [])) (hr : ∀ x, o = .inr (x) → x = σ0) : ∀ (k : Nat) (v : Int32 × hSt), lp (S_X12_dayByRule_28 a0 l1) k v = some o → ∀ (H : Heap) (locs : List Loc) (ls : Array Slot), Wd D ay kM NM ad (aN NM ad) s v.2 H locs → lv_has ls 3 [(0, .ref (ad a0)), (1, .int l1), (2, .int v.1)] → W p l e (rmK 5 125) s m args below meth c H locs 0 0 (MQ below (cV D ay kM NM ad σ0) args s 0 0 (aN NM ad)) (F0 m 28 ls []) := by
  intro k
  induction k with
  | zero => intro v hf; cases hf
  | succ k ih =>
    intro v hf H locs ls w hl
    obtain ⟨o1, h1, h2, h3⟩ := lp_some hf
    exact B_X12_dayByRule_28b a0 l1 v.1 v.2 G hm ok_a0 h1 (fun v' e => hb0 v' (h3 _ e).symm) (fun v' e => ih v' (h2 v' e)) (fun x e => hr x (h3 _ e).symm) w hl
set_option maxRecDepth 100000 in
set_option maxHeartbeats 4000000 in
theorem B_X12_dayByRule_28 {H : Heap} {locs : List Loc} {ls : Array Slot} {σ0 : hSt} {o : (Int32 × hSt) ⊕ (hSt)} (a0 : Nat) (l1 : Int32) (l2 : Int32) (σ : hSt) (G : Gx p m c cX12_dayByRule 3 s args RX12 D ay NM ad (aN NM ad)) (hm : meth.sig.returnType = none ∧ meth.locks = false) (ok_a0 : okr kM NM 12 a0 = true) (hf : F_X12_dayByRule_28 a0 l1 l2 σ = some o) (hb0 : ∀ (v : Int32 × hSt), o = .inl v → ∀ (H : Heap) (locs : List Loc) (ls : Array Slot), Wd D ay kM NM ad (aN NM ad) s v.2 H locs → lv_has ls 3 [(0, .ref (ad a0)), (1, .int v.1)] → W p l e (rmK 5 125) s m args below meth c H locs 0 0 (MQ below (cV D ay kM NM ad σ0) args s 0 0 (aN NM ad)) (F0 m 13 ls [])) (hr : ∀ x, o = .inr (x) → x = σ0) (w : Wd D ay kM NM ad (aN NM ad) s σ H locs) (hl : lv_has ls 3 [(0, .ref (ad a0)), (1, .int l1), (2, .int l2)]) : W p l e (rmK 5 125) s m args below meth c H locs 0 0 (MQ below (cV D ay kM NM ad σ0) args s 0 0 (aN NM ad)) (F0 m 28 ls []) := by
  unfold F_X12_dayByRule_28 at hf
  exact H_X12_dayByRule_28 a0 l1  G hm ok_a0 hb0 hr fuel (l2, σ) hf _ _ _ w hl
set_option maxRecDepth 100000 in
set_option maxHeartbeats 4000000 in
theorem B_X12_dayByRule_13b {H : Heap} {locs : List Loc} {ls : Array Slot} {σ0 : hSt} {o : (Int32 × hSt) ⊕ (hSt)} (a0 : Nat) (l1 : Int32) (σ : hSt) (G : Gx p m c cX12_dayByRule 3 s args RX12 D ay NM ad (aN NM ad)) (hm : meth.sig.returnType = none ∧ meth.locks = false) (ok_a0 : okr kM NM 12 a0 = true) (hf : F_X12_dayByRule_13b a0 l1 σ = some o) (hb0 : ∀ (v : Int32 × hSt), o = .inl v → ∀ (H : Heap) (locs : List Loc) (ls : Array Slot), Wd D ay kM NM ad (aN NM ad) s v.2 H locs → lv_has ls 3 [(0, .ref (ad a0)), (1, .int v.1)] → W p l e (rmK 5 125) s m args below meth c H locs 0 0 (MQ below (cV D ay kM NM ad σ0) args s 0 0 (aN NM ad)) (F0 m 13 ls [])) (hr : ∀ x, o = .inr (x) → x = σ0) (w : Wd D ay kM NM ad (aN NM ad) s σ H locs) (hl : lv_has ls 3 [(0, .ref (ad a0)), (1, .int l1)]) : W p l e (rmK 5 125) s m args below meth c H locs 0 0 (MQ below (cV D ay kM NM ad σ0) args s 0 0 (aN NM ad)) (F0 m 13 ls []) := by
  have k_a0 := okr_in ok_a0
  unfold F_X12_dayByRule_13b at hf
  refine lv_iload_n G.hx G.hb (dcs_get dec_X12_dayByRule_0 8 rfl) rfl (lv_at hl 1 rfl) ?_
  refine lv_aload_n G.hx G.hb (dcs_get dec_X12_dayByRule_0 9 rfl) rfl (lv_at hl 0 rfl) ?_
  obtain ⟨z10, e_z10, ok_z10, hf⟩ := cR_some hf
  have k_z10 := okr_in ok_z10
  refine r_getr (k := 24) cls12 fi_12_24.1 fi_12_24.2 q_1032 G w k_a0.1 k_a0.2 e_z10 (dcs_get dec_X12_dayByRule_0 10 rfl) ?_
  refine lv_aload_n G.hx G.hb (dcs_get dec_X12_dayByRule_0 11 rfl) rfl (lv_at hl 0 rfl) ?_
  refine r_geti (k := 18) cls12 fi_12_18.1 fi_12_18.2 q_1026 G w k_a0.1 k_a0.2 (dcs_get dec_X12_dayByRule_0 12 rfl) ?_
  obtain ⟨h11, hf⟩ := cG_some hf
  refine r_iald G w k_z10.1 k_z10.2 h11 (dcs_get dec_X12_dayByRule_0 13 rfl) ?_
  refine lv_icmp_ge (tgt := 79) G.hx G.hb (dcs_get dec_X12_dayByRule_0 14 rfl) (by decide) (fun hc => ?_) (fun hc => ?_)
  · rw [if_pos hc] at hf
    refine lv_aload_n G.hx G.hb (dcs_get dec_X12_dayByRule_1 4 rfl) rfl (lv_at hl 0 rfl) ?_
    obtain ⟨σ13, h12, hf⟩ := cB_some hf
    refine a_v (k_V (As := []) (rest := []) cls12 lb_X12_nightGoes lv_X12_nightGoes q_1428 (C_X12_nightGoes G.2.2.1 a0 σ h12 ok_a0) ⟨(Nat.le_of_ble_eq_true rfl), (Nat.le_of_ble_eq_true rfl)⟩ G w k_a0.1 k_a0.2 rfl rfl hl.1 (Nat.le_of_ble_eq_true rfl) (dcs_get dec_X12_dayByRule_1 5 rfl) ⟨Nat.le_refl _, Nat.le_refl _⟩) G w (fun H locs w => ?_)
    have e9 := hr _ (Option.some.inj hf).symm
    exact r_vret G w hm e9 (dcs_get dec_X12_dayByRule_1 6 rfl)
  · rw [if_neg hc] at hf
    refine lv_iconst (v := (0 : Int32)) G.hx G.hb (dcs_get dec_X12_dayByRule_0 15 rfl) (by decide) ?_
    refine lv_istore_n (lv' := [(2, .int (0 : Int32)), (0, .ref (ad a0)), (1, .int l1)]) G.hx G.hb (dcs_get dec_X12_dayByRule_0 16 rfl) rfl hl (by decide) rfl (fun ls hl => ?_)
    exact B_X12_dayByRule_28 a0 l1 (0 : Int32) σ G hm ok_a0 hf hb0 hr w (lv_sub hl [1, 2, 0] rfl)
set_option maxRecDepth 100000 in
set_option maxHeartbeats 4000000 in
theorem H_X12_dayByRule_13 {σ0 : hSt} (a0 : Nat) (G : Gx p m c cX12_dayByRule 3 s args RX12 D ay NM ad (aN NM ad)) (hm : meth.sig.returnType = none ∧ meth.locks = false) (ok_a0 : okr kM NM 12 a0 = true)  : ∀ (k : Nat) (v : Int32 × hSt), lp (S_X12_dayByRule_13 a0) k v = some σ0 → ∀ (H : Heap) (locs : List Loc) (ls : Array Slot), Wd D ay kM NM ad (aN NM ad) s v.2 H locs → lv_has ls 3 [(0, .ref (ad a0)), (1, .int v.1)] → W p l e (rmK 5 125) s m args below meth c H locs 0 0 (MQ below (cV D ay kM NM ad σ0) args s 0 0 (aN NM ad)) (F0 m 13 ls []) := by
  intro k
  induction k with
  | zero => intro v hf; cases hf
  | succ k ih =>
    intro v hf H locs ls w hl
    obtain ⟨o1, h1, h2, h3⟩ := lp_some hf
    exact B_X12_dayByRule_13b a0 v.1 v.2 G hm ok_a0 h1  (fun v' e => ih v' (h2 v' e)) (fun x e => h3 x e) w hl
set_option maxRecDepth 100000 in
set_option maxHeartbeats 4000000 in
theorem B_X12_dayByRule_13 {H : Heap} {locs : List Loc} {ls : Array Slot} {σ0 : hSt} (a0 : Nat) (l1 : Int32) (σ : hSt) (G : Gx p m c cX12_dayByRule 3 s args RX12 D ay NM ad (aN NM ad)) (hm : meth.sig.returnType = none ∧ meth.locks = false) (ok_a0 : okr kM NM 12 a0 = true) (hf : F_X12_dayByRule_13 a0 l1 σ = some σ0)  (w : Wd D ay kM NM ad (aN NM ad) s σ H locs) (hl : lv_has ls 3 [(0, .ref (ad a0)), (1, .int l1)]) : W p l e (rmK 5 125) s m args below meth c H locs 0 0 (MQ below (cV D ay kM NM ad σ0) args s 0 0 (aN NM ad)) (F0 m 13 ls []) := by
  unfold F_X12_dayByRule_13 at hf
  exact H_X12_dayByRule_13 a0  G hm ok_a0  fuel (l1, σ) hf _ _ _ w hl
set_option maxRecDepth 100000 in
set_option maxHeartbeats 4000000 in
theorem B_X12_dayByRule_0 {H : Heap} {locs : List Loc} {ls : Array Slot} {σ0 : hSt} (a0 : Nat) (σ : hSt) (G : Gx p m c cX12_dayByRule 3 s args RX12 D ay NM ad (aN NM ad)) (hm : meth.sig.returnType = none ∧ meth.locks = false) (ok_a0 : okr kM NM 12 a0 = true) (hf : F_X12_dayByRule a0 σ = some σ0)  (w : Wd D ay kM NM ad (aN NM ad) s σ H locs) (hl : lv_has ls 3 [(0, .ref (ad a0))]) : W p l e (rmK 5 125) s m args below meth c H locs 0 0 (MQ below (cV D ay kM NM ad σ0) args s 0 0 (aN NM ad)) (F0 m 0 ls []) := by
  have k_a0 := okr_in ok_a0
  unfold F_X12_dayByRule at hf
  refine lv_aload_n G.hx G.hb (dcs_get dec_X12_dayByRule_0 0 rfl) rfl (lv_at hl 0 rfl) ?_
  refine lv_aload_n G.hx G.hb (dcs_get dec_X12_dayByRule_0 1 rfl) rfl (lv_at hl 0 rfl) ?_
  obtain ⟨z14, e_z14, ok_z14, hf⟩ := cR_some hf
  have k_z14 := okr_in ok_z14
  refine r_getr (k := 54) cls12 fi_12_54.1 fi_12_54.2 q_1062 G w k_a0.1 k_a0.2 e_z14 (dcs_get dec_X12_dayByRule_0 2 rfl) ?_
  refine lv_bipush (v := (120 : Int32)) G.hx G.hb (dcs_get dec_X12_dayByRule_0 3 rfl) (by decide) ?_
  obtain ⟨h15, hf⟩ := cG_some hf
  refine r_iald G w k_z14.1 k_z14.2 h15 (dcs_get dec_X12_dayByRule_0 4 rfl) ?_
  obtain ⟨σ17, h16, hf⟩ := cB_some hf
  refine a_v (k_V (As := [.int (σ.1 z14 (120 : Int32).toNatClampNeg)]) (rest := []) cls12 lb_X12_fillsHearers lv_X12_fillsHearers q_1400 (C_X12_fillsHearers G.2.2.1 a0 (σ.1 z14 (120 : Int32).toNatClampNeg) σ h16 ok_a0) ⟨(Nat.le_of_ble_eq_true rfl), (Nat.le_of_ble_eq_true rfl)⟩ G w k_a0.1 k_a0.2 rfl rfl hl.1 (Nat.le_of_ble_eq_true rfl) (dcs_get dec_X12_dayByRule_0 5 rfl) ⟨Nat.le_refl _, Nat.le_refl _⟩) G w (fun H locs w => ?_)
  refine lv_iconst (v := (0 : Int32)) G.hx G.hb (dcs_get dec_X12_dayByRule_0 6 rfl) (by decide) ?_
  refine lv_istore_n (lv' := [(1, .int (0 : Int32)), (0, .ref (ad a0))]) G.hx G.hb (dcs_get dec_X12_dayByRule_0 7 rfl) rfl hl (by decide) rfl (fun ls hl => ?_)
  exact B_X12_dayByRule_13 a0 (0 : Int32) σ17 G hm ok_a0 hf  w (lv_sub hl [1, 0] rfl)
end
set_option maxRecDepth 100000 in
set_option maxHeartbeats 4000000 in
theorem C_X12_dayByRule {l : Launch} {D : va_G} {ay : Nat → ClassId} {ad : Nat → Nat} (hi : hInj NM ad) (a0 : Nat) (σ : hSt) {σ0 : hSt} (hf : F_X12_dayByRule a0 σ = some σ0) (ok_a0 : okr kM NM 12 a0 = true) : hM l D ay kM NM ad yX12_dayByRule cX12_dayByRule 3 (none) (rmK 5 125) [.ref (ad a0)] σ (cV D ay kM NM ad σ0) := by
  refine hM_in (by decide) hi (Nat.le_of_ble_eq_true rfl) ?_
  intro p e s m below meth c G hm w ls hl
  exact B_X12_dayByRule_0 a0 σ G hm ok_a0 hf w (lv_sub hl [0] rfl)

/-! HillDrumsModel.news(III)I -/
def DL_X12_news_0 : List (Nat × Instr × Nat) := [(0, .aload_n 0, 1), (1, .iload_n 1, 1), (2, .invokevirtual 342, 3), (5, .ifCond .eq 11, 3), (8, .aload_n 0, 1), (9, .iload_n 2, 1), (10, .invokevirtual 377, 3), (13, .ifCond .ne 5, 3), (16, .iconst (-1), 1), (17, .ireturn, 1), (18, .iconst 4, 1), (19, .iload_n 1, 1), (20, .imul, 1), (21, .iload_n 2, 1), (22, .iadd, 1), (23, .istore 4, 2), (25, .iload_n 3, 1), (26, .tableswitch 140 0 4 #[34, 42, 68, 94, 120], 34), (60, .aload_n 0, 1), (61, .getfield 125, 3), (64, .iload 4, 2), (66, .iaload, 1), (67, .ireturn, 1), (68, .aload_n 0, 1), (69, .getfield 125, 3), (72, .iload 4, 2), (74, .iaload, 1), (75, .ifCond .ne 8, 3), (78, .bipush (-2), 2), (80, .goto 13, 3), (83, .aload_n 0, 1), (84, .getfield 125, 3), (87, .bipush 24, 2), (89, .iload 4, 2), (91, .iadd, 1), (92, .iaload, 1), (93, .ireturn, 1), (94, .aload_n 0, 1), (95, .getfield 125, 3), (98, .iload 4, 2)]
set_option maxRecDepth 100000 in
theorem dec_X12_news_0 : dcs cX12_news DL_X12_news_0 = true := by decide +kernel
def DL_X12_news_1 : List (Nat × Instr × Nat) := [(100, .iaload, 1), (101, .ifCond .ne 8, 3), (104, .bipush (-2), 2), (106, .goto 13, 3), (109, .aload_n 0, 1), (110, .getfield 125, 3), (113, .bipush 48, 2), (115, .iload 4, 2), (117, .iadd, 1), (118, .iaload, 1), (119, .ireturn, 1), (120, .aload_n 0, 1), (121, .getfield 125, 3), (124, .iload 4, 2), (126, .iaload, 1), (127, .ifCond .ne 8, 3), (130, .bipush (-2), 2), (132, .goto 13, 3), (135, .aload_n 0, 1), (136, .getfield 125, 3), (139, .bipush 72, 2), (141, .iload 4, 2), (143, .iadd, 1), (144, .iaload, 1), (145, .ireturn, 1), (146, .aload_n 0, 1), (147, .getfield 125, 3), (150, .bipush 96, 2), (152, .iload 4, 2), (154, .iadd, 1), (155, .iaload, 1), (156, .iconst 3, 1), (157, .if_icmp .ne 7, 3), (160, .iconst 1, 1), (161, .goto 4, 3), (164, .iconst 0, 1), (165, .ireturn, 1), (166, .iconst (-1), 1), (167, .ireturn, 1)]
set_option maxRecDepth 100000 in
theorem dec_X12_news_1 : dcs cX12_news DL_X12_news_1 = true := by decide +kernel
theorem lb_X12_news : lkB yX12_news cX12_news 5 ((some .int)) 3 := ⟨q_1375, q_14, ⟨by decide, by decide⟩, by decide +kernel⟩
theorem lv_X12_news : lkV yX12_news := ⟨q_1373, q_1374⟩
def F_X12_news_16  (σ : hSt) : Option (Int32) :=
some ((-1 : Int32))
def F_X12_news_165 (s0 : Int32) (σ : hSt) : Option (Int32) :=
some (s0)
def F_X12_news_145 (s0 : Int32) (σ : hSt) : Option (Int32) :=
some (s0)
def F_X12_news_119 (s0 : Int32) (σ : hSt) : Option (Int32) :=
some (s0)
def F_X12_news_93 (s0 : Int32) (σ : hSt) : Option (Int32) :=
some (s0)
def F_X12_news (a0 : Nat) (l1 : Int32) (l2 : Int32) (l3 : Int32) (σ : hSt) : Option (Int32) :=
(F_X12_isHill a0 l1 σ).bind fun v2 =>
if v2 = 0 then (
F_X12_news_16  σ) else (
(F_X12_isNews a0 l2 σ).bind fun v4 =>
if v4 = 0 then (
F_X12_news_16  σ) else (
cL (((4 : Int32) * l1) + l2) fun v5 =>
if l3 = (0 : Int32) then (
cR (σ.2.2 a0 53) (okr kM NM 101) fun z6 =>
cG (inb v5 (kM z6).2) <|
some (σ.1 z6 v5.toNatClampNeg)) else (
if l3 = (1 : Int32) then (
cR (σ.2.2 a0 53) (okr kM NM 101) fun z8 =>
cG (inb v5 (kM z8).2) <|
if (σ.1 z8 v5.toNatClampNeg) = 0 then (
F_X12_news_93 (-2 : Int32) σ) else (
cR (σ.2.2 a0 53) (okr kM NM 101) fun z10 =>
cG (inb ((24 : Int32) + v5) (kM z10).2) <|
F_X12_news_93 (σ.1 z10 ((24 : Int32) + v5).toNatClampNeg) σ)) else (
if l3 = (2 : Int32) then (
cR (σ.2.2 a0 53) (okr kM NM 101) fun z12 =>
cG (inb v5 (kM z12).2) <|
if (σ.1 z12 v5.toNatClampNeg) = 0 then (
F_X12_news_119 (-2 : Int32) σ) else (
cR (σ.2.2 a0 53) (okr kM NM 101) fun z14 =>
cG (inb ((48 : Int32) + v5) (kM z14).2) <|
F_X12_news_119 (σ.1 z14 ((48 : Int32) + v5).toNatClampNeg) σ)) else (
if l3 = (3 : Int32) then (
cR (σ.2.2 a0 53) (okr kM NM 101) fun z16 =>
cG (inb v5 (kM z16).2) <|
if (σ.1 z16 v5.toNatClampNeg) = 0 then (
F_X12_news_145 (-2 : Int32) σ) else (
cR (σ.2.2 a0 53) (okr kM NM 101) fun z18 =>
cG (inb ((72 : Int32) + v5) (kM z18).2) <|
F_X12_news_145 (σ.1 z18 ((72 : Int32) + v5).toNatClampNeg) σ)) else (
if l3 = (4 : Int32) then (
cR (σ.2.2 a0 53) (okr kM NM 101) fun z20 =>
cG (inb ((96 : Int32) + v5) (kM z20).2) <|
if (σ.1 z20 ((96 : Int32) + v5).toNatClampNeg) = (3 : Int32) then (
F_X12_news_165 (1 : Int32) σ) else (
F_X12_news_165 (0 : Int32) σ)) else (
some ((-1 : Int32)))))))))
section
variable {p : Program} {l : Launch} {e : Env} {s : State} {m : MethodId} {args : Array Value} {below : List Frame} {meth : Method} {c : Code} {D : va_G} {ay : Nat → ClassId} {ad : Nat → Nat}
set_option maxRecDepth 100000 in
set_option maxHeartbeats 4000000 in
theorem B_X12_news_16 {H : Heap} {locs : List Loc} {ls : Array Slot} {r0 : Int32}  (σ : hSt) (G : Gx p m c cX12_news 5 s args RX12 D ay NM ad (aN NM ad)) (hm : meth.sig.returnType = (some .int) ∧ meth.locks = false)  (hf : F_X12_news_16  σ = some r0)  (w : Wd D ay kM NM ad (aN NM ad) s σ H locs) (hl : lv_has ls 5 []) : W p l e (rmK 2 43) s m args below meth c H locs 0 0 (MQ below (cI D ay kM NM ad r0 σ) args s 0 0 (aN NM ad)) (F0 m 16 ls []) := by
  unfold F_X12_news_16 at hf
  refine lv_iconst (v := (-1 : Int32)) G.hx G.hb (dcs_get dec_X12_news_0 8 rfl) (by decide) ?_
  have e9 := Option.some.inj hf
  exact r_iret G w hm e9 rfl (dcs_get dec_X12_news_0 9 rfl)
set_option maxRecDepth 100000 in
set_option maxHeartbeats 4000000 in
theorem B_X12_news_165 {H : Heap} {locs : List Loc} {ls : Array Slot} {r0 : Int32} (s0 : Int32) (σ : hSt) (G : Gx p m c cX12_news 5 s args RX12 D ay NM ad (aN NM ad)) (hm : meth.sig.returnType = (some .int) ∧ meth.locks = false)  (hf : F_X12_news_165 s0 σ = some r0)  (w : Wd D ay kM NM ad (aN NM ad) s σ H locs) (hl : lv_has ls 5 []) : W p l e (rmK 2 43) s m args below meth c H locs 0 0 (MQ below (cI D ay kM NM ad r0 σ) args s 0 0 (aN NM ad)) (F0 m 165 ls [.int s0]) := by
  unfold F_X12_news_165 at hf
  have e9 := Option.some.inj hf
  exact r_iret G w hm e9 rfl (dcs_get dec_X12_news_1 36 rfl)
set_option maxRecDepth 100000 in
set_option maxHeartbeats 4000000 in
theorem B_X12_news_145 {H : Heap} {locs : List Loc} {ls : Array Slot} {r0 : Int32} (s0 : Int32) (σ : hSt) (G : Gx p m c cX12_news 5 s args RX12 D ay NM ad (aN NM ad)) (hm : meth.sig.returnType = (some .int) ∧ meth.locks = false)  (hf : F_X12_news_145 s0 σ = some r0)  (w : Wd D ay kM NM ad (aN NM ad) s σ H locs) (hl : lv_has ls 5 []) : W p l e (rmK 2 43) s m args below meth c H locs 0 0 (MQ below (cI D ay kM NM ad r0 σ) args s 0 0 (aN NM ad)) (F0 m 145 ls [.int s0]) := by
  unfold F_X12_news_145 at hf
  have e9 := Option.some.inj hf
  exact r_iret G w hm e9 rfl (dcs_get dec_X12_news_1 24 rfl)
set_option maxRecDepth 100000 in
set_option maxHeartbeats 4000000 in
theorem B_X12_news_119 {H : Heap} {locs : List Loc} {ls : Array Slot} {r0 : Int32} (s0 : Int32) (σ : hSt) (G : Gx p m c cX12_news 5 s args RX12 D ay NM ad (aN NM ad)) (hm : meth.sig.returnType = (some .int) ∧ meth.locks = false)  (hf : F_X12_news_119 s0 σ = some r0)  (w : Wd D ay kM NM ad (aN NM ad) s σ H locs) (hl : lv_has ls 5 []) : W p l e (rmK 2 43) s m args below meth c H locs 0 0 (MQ below (cI D ay kM NM ad r0 σ) args s 0 0 (aN NM ad)) (F0 m 119 ls [.int s0]) := by
  unfold F_X12_news_119 at hf
  have e9 := Option.some.inj hf
  exact r_iret G w hm e9 rfl (dcs_get dec_X12_news_1 10 rfl)
set_option maxRecDepth 100000 in
set_option maxHeartbeats 4000000 in
theorem B_X12_news_93 {H : Heap} {locs : List Loc} {ls : Array Slot} {r0 : Int32} (s0 : Int32) (σ : hSt) (G : Gx p m c cX12_news 5 s args RX12 D ay NM ad (aN NM ad)) (hm : meth.sig.returnType = (some .int) ∧ meth.locks = false)  (hf : F_X12_news_93 s0 σ = some r0)  (w : Wd D ay kM NM ad (aN NM ad) s σ H locs) (hl : lv_has ls 5 []) : W p l e (rmK 2 43) s m args below meth c H locs 0 0 (MQ below (cI D ay kM NM ad r0 σ) args s 0 0 (aN NM ad)) (F0 m 93 ls [.int s0]) := by
  unfold F_X12_news_93 at hf
  have e9 := Option.some.inj hf
  exact r_iret G w hm e9 rfl (dcs_get dec_X12_news_0 36 rfl)
set_option maxRecDepth 100000 in
set_option maxHeartbeats 4000000 in
theorem B_X12_news_0 {H : Heap} {locs : List Loc} {ls : Array Slot} {r0 : Int32} (a0 : Nat) (l1 : Int32) (l2 : Int32) (l3 : Int32) (σ : hSt) (G : Gx p m c cX12_news 5 s args RX12 D ay NM ad (aN NM ad)) (hm : meth.sig.returnType = (some .int) ∧ meth.locks = false) (ok_a0 : okr kM NM 12 a0 = true) (hf : F_X12_news a0 l1 l2 l3 σ = some r0)  (w : Wd D ay kM NM ad (aN NM ad) s σ H locs) (hl : lv_has ls 5 [(0, .ref (ad a0)), (1, .int l1), (2, .int l2), (3, .int l3)]) : W p l e (rmK 2 43) s m args below meth c H locs 0 0 (MQ below (cI D ay kM NM ad r0 σ) args s 0 0 (aN NM ad)) (F0 m 0 ls []) := by
  have k_a0 := okr_in ok_a0
  unfold F_X12_news at hf
  refine lv_aload_n G.hx G.hb (dcs_get dec_X12_news_0 0 rfl) rfl (lv_at hl 0 rfl) ?_
  refine lv_iload_n G.hx G.hb (dcs_get dec_X12_news_0 1 rfl) rfl (lv_at hl 1 rfl) ?_
  obtain ⟨v2, h1, hf⟩ := cB_some hf
  refine a_i (k_V (As := [.int l1]) (rest := []) cls12 lb_X12_isHill lv_X12_isHill q_1346 (C_X12_isHill G.2.2.1 a0 l1 σ h1 ok_a0) ⟨(Nat.le_of_ble_eq_true rfl), (Nat.le_of_ble_eq_true rfl)⟩ G w k_a0.1 k_a0.2 rfl rfl hl.1 (Nat.le_of_ble_eq_true rfl) (dcs_get dec_X12_news_0 2 rfl) ⟨Nat.le_refl _, Nat.le_refl _⟩) G w (fun H locs w => ?_)
  refine lv_if_eq (tgt := 16) G.hx G.hb (dcs_get dec_X12_news_0 3 rfl) (by decide) (fun hc => ?_) (fun hc => ?_)
  · rw [if_pos hc] at hf
    exact B_X12_news_16  σ G hm  hf  w (lv_sub hl [] rfl)
  · rw [if_neg hc] at hf
    refine lv_aload_n G.hx G.hb (dcs_get dec_X12_news_0 4 rfl) rfl (lv_at hl 0 rfl) ?_
    refine lv_iload_n G.hx G.hb (dcs_get dec_X12_news_0 5 rfl) rfl (lv_at hl 2 rfl) ?_
    obtain ⟨v4, h3, hf⟩ := cB_some hf
    refine a_i (k_V (As := [.int l2]) (rest := []) cls12 lb_X12_isNews lv_X12_isNews q_1376 (C_X12_isNews G.2.2.1 a0 l2 σ h3 ok_a0) ⟨(Nat.le_of_ble_eq_true rfl), (Nat.le_of_ble_eq_true rfl)⟩ G w k_a0.1 k_a0.2 rfl rfl hl.1 (Nat.le_of_ble_eq_true rfl) (dcs_get dec_X12_news_0 6 rfl) ⟨Nat.le_refl _, Nat.le_refl _⟩) G w (fun H locs w => ?_)
    refine lv_if_ne (tgt := 18) G.hx G.hb (dcs_get dec_X12_news_0 7 rfl) (by decide) (fun hc => ?_) (fun hc => ?_)
    · rw [if_neg hc] at hf
      refine lv_iconst (v := (4 : Int32)) G.hx G.hb (dcs_get dec_X12_news_0 10 rfl) (by decide) ?_
      refine lv_iload_n G.hx G.hb (dcs_get dec_X12_news_0 11 rfl) rfl (lv_at hl 1 rfl) ?_
      refine lv_imul G.hx G.hb (dcs_get dec_X12_news_0 12 rfl) ?_
      refine lv_iload_n G.hx G.hb (dcs_get dec_X12_news_0 13 rfl) rfl (lv_at hl 2 rfl) ?_
      refine lv_iadd G.hx G.hb (dcs_get dec_X12_news_0 14 rfl) ?_
      obtain ⟨v5, e_v5, hf⟩ := cL_some hf
      refine r_topi e_v5 ?_
      refine lv_istore (lv' := [(4, .int v5), (0, .ref (ad a0)), (1, .int l1), (2, .int l2), (3, .int l3)]) G.hx G.hb (dcs_get dec_X12_news_0 15 rfl) hl (by decide) rfl (fun ls hl => ?_)
      refine lv_iload_n G.hx G.hb (dcs_get dec_X12_news_0 16 rfl) rfl (lv_at hl 4 rfl) ?_
      by_cases hc0 : l3 = (0 : Int32)
      · rw [if_pos hc0] at hf
        refine r_tIn (k := (0 : Int32)) (tgt := 60) G.hx G.hb (dcs_get dec_X12_news_0 17 rfl) hc0 (by decide) rfl (by decide) ?_
        refine lv_aload_n G.hx G.hb (dcs_get dec_X12_news_0 18 rfl) rfl (lv_at hl 1 rfl) ?_
        obtain ⟨z6, e_z6, ok_z6, hf⟩ := cR_some hf
        have k_z6 := okr_in ok_z6
        refine r_getr (k := 53) cls12 fi_12_53.1 fi_12_53.2 q_1061 G w k_a0.1 k_a0.2 e_z6 (dcs_get dec_X12_news_0 19 rfl) ?_
        refine lv_iload G.hx G.hb (dcs_get dec_X12_news_0 20 rfl) (lv_at hl 0 rfl) ?_
        obtain ⟨h7, hf⟩ := cG_some hf
        refine r_iald G w k_z6.1 k_z6.2 h7 (dcs_get dec_X12_news_0 21 rfl) ?_
        have e9 := Option.some.inj hf
        exact r_iret G w hm e9 rfl (dcs_get dec_X12_news_0 22 rfl)
      rw [if_neg hc0] at hf
      by_cases hc1 : l3 = (1 : Int32)
      · rw [if_pos hc1] at hf
        refine r_tIn (k := (1 : Int32)) (tgt := 68) G.hx G.hb (dcs_get dec_X12_news_0 17 rfl) hc1 (by decide) rfl (by decide) ?_
        refine lv_aload_n G.hx G.hb (dcs_get dec_X12_news_0 23 rfl) rfl (lv_at hl 1 rfl) ?_
        obtain ⟨z8, e_z8, ok_z8, hf⟩ := cR_some hf
        have k_z8 := okr_in ok_z8
        refine r_getr (k := 53) cls12 fi_12_53.1 fi_12_53.2 q_1061 G w k_a0.1 k_a0.2 e_z8 (dcs_get dec_X12_news_0 24 rfl) ?_
        refine lv_iload G.hx G.hb (dcs_get dec_X12_news_0 25 rfl) (lv_at hl 0 rfl) ?_
        obtain ⟨h9, hf⟩ := cG_some hf
        refine r_iald G w k_z8.1 k_z8.2 h9 (dcs_get dec_X12_news_0 26 rfl) ?_
        refine lv_if_ne (tgt := 83) G.hx G.hb (dcs_get dec_X12_news_0 27 rfl) (by decide) (fun hc => ?_) (fun hc => ?_)
        · rw [if_neg hc] at hf
          refine lv_aload_n G.hx G.hb (dcs_get dec_X12_news_0 30 rfl) rfl (lv_at hl 1 rfl) ?_
          obtain ⟨z10, e_z10, ok_z10, hf⟩ := cR_some hf
          have k_z10 := okr_in ok_z10
          refine r_getr (k := 53) cls12 fi_12_53.1 fi_12_53.2 q_1061 G w k_a0.1 k_a0.2 e_z10 (dcs_get dec_X12_news_0 31 rfl) ?_
          refine lv_bipush (v := (24 : Int32)) G.hx G.hb (dcs_get dec_X12_news_0 32 rfl) (by decide) ?_
          refine lv_iload G.hx G.hb (dcs_get dec_X12_news_0 33 rfl) (lv_at hl 0 rfl) ?_
          refine lv_iadd G.hx G.hb (dcs_get dec_X12_news_0 34 rfl) ?_
          obtain ⟨h11, hf⟩ := cG_some hf
          refine r_iald G w k_z10.1 k_z10.2 h11 (dcs_get dec_X12_news_0 35 rfl) ?_
          exact B_X12_news_93 (σ.1 z10 ((24 : Int32) + v5).toNatClampNeg) σ G hm  hf  w (lv_sub hl [] rfl)
        · rw [if_pos hc] at hf
          refine lv_bipush (v := (-2 : Int32)) G.hx G.hb (dcs_get dec_X12_news_0 28 rfl) (by decide) ?_
          refine lv_goto (tgt := 93) G.hx G.hb (dcs_get dec_X12_news_0 29 rfl) (by decide) ?_
          exact B_X12_news_93 (-2 : Int32) σ G hm  hf  w (lv_sub hl [] rfl)
      rw [if_neg hc1] at hf
      by_cases hc2 : l3 = (2 : Int32)
      · rw [if_pos hc2] at hf
        refine r_tIn (k := (2 : Int32)) (tgt := 94) G.hx G.hb (dcs_get dec_X12_news_0 17 rfl) hc2 (by decide) rfl (by decide) ?_
        refine lv_aload_n G.hx G.hb (dcs_get dec_X12_news_0 37 rfl) rfl (lv_at hl 1 rfl) ?_
        obtain ⟨z12, e_z12, ok_z12, hf⟩ := cR_some hf
        have k_z12 := okr_in ok_z12
        refine r_getr (k := 53) cls12 fi_12_53.1 fi_12_53.2 q_1061 G w k_a0.1 k_a0.2 e_z12 (dcs_get dec_X12_news_0 38 rfl) ?_
        refine lv_iload G.hx G.hb (dcs_get dec_X12_news_0 39 rfl) (lv_at hl 0 rfl) ?_
        obtain ⟨h13, hf⟩ := cG_some hf
        refine r_iald G w k_z12.1 k_z12.2 h13 (dcs_get dec_X12_news_1 0 rfl) ?_
        refine lv_if_ne (tgt := 109) G.hx G.hb (dcs_get dec_X12_news_1 1 rfl) (by decide) (fun hc => ?_) (fun hc => ?_)
        · rw [if_neg hc] at hf
          refine lv_aload_n G.hx G.hb (dcs_get dec_X12_news_1 4 rfl) rfl (lv_at hl 1 rfl) ?_
          obtain ⟨z14, e_z14, ok_z14, hf⟩ := cR_some hf
          have k_z14 := okr_in ok_z14
          refine r_getr (k := 53) cls12 fi_12_53.1 fi_12_53.2 q_1061 G w k_a0.1 k_a0.2 e_z14 (dcs_get dec_X12_news_1 5 rfl) ?_
          refine lv_bipush (v := (48 : Int32)) G.hx G.hb (dcs_get dec_X12_news_1 6 rfl) (by decide) ?_
          refine lv_iload G.hx G.hb (dcs_get dec_X12_news_1 7 rfl) (lv_at hl 0 rfl) ?_
          refine lv_iadd G.hx G.hb (dcs_get dec_X12_news_1 8 rfl) ?_
          obtain ⟨h15, hf⟩ := cG_some hf
          refine r_iald G w k_z14.1 k_z14.2 h15 (dcs_get dec_X12_news_1 9 rfl) ?_
          exact B_X12_news_119 (σ.1 z14 ((48 : Int32) + v5).toNatClampNeg) σ G hm  hf  w (lv_sub hl [] rfl)
        · rw [if_pos hc] at hf
          refine lv_bipush (v := (-2 : Int32)) G.hx G.hb (dcs_get dec_X12_news_1 2 rfl) (by decide) ?_
          refine lv_goto (tgt := 119) G.hx G.hb (dcs_get dec_X12_news_1 3 rfl) (by decide) ?_
          exact B_X12_news_119 (-2 : Int32) σ G hm  hf  w (lv_sub hl [] rfl)
      rw [if_neg hc2] at hf
      by_cases hc3 : l3 = (3 : Int32)
      · rw [if_pos hc3] at hf
        refine r_tIn (k := (3 : Int32)) (tgt := 120) G.hx G.hb (dcs_get dec_X12_news_0 17 rfl) hc3 (by decide) rfl (by decide) ?_
        refine lv_aload_n G.hx G.hb (dcs_get dec_X12_news_1 11 rfl) rfl (lv_at hl 1 rfl) ?_
        obtain ⟨z16, e_z16, ok_z16, hf⟩ := cR_some hf
        have k_z16 := okr_in ok_z16
        refine r_getr (k := 53) cls12 fi_12_53.1 fi_12_53.2 q_1061 G w k_a0.1 k_a0.2 e_z16 (dcs_get dec_X12_news_1 12 rfl) ?_
        refine lv_iload G.hx G.hb (dcs_get dec_X12_news_1 13 rfl) (lv_at hl 0 rfl) ?_
        obtain ⟨h17, hf⟩ := cG_some hf
        refine r_iald G w k_z16.1 k_z16.2 h17 (dcs_get dec_X12_news_1 14 rfl) ?_
        refine lv_if_ne (tgt := 135) G.hx G.hb (dcs_get dec_X12_news_1 15 rfl) (by decide) (fun hc => ?_) (fun hc => ?_)
        · rw [if_neg hc] at hf
          refine lv_aload_n G.hx G.hb (dcs_get dec_X12_news_1 18 rfl) rfl (lv_at hl 1 rfl) ?_
          obtain ⟨z18, e_z18, ok_z18, hf⟩ := cR_some hf
          have k_z18 := okr_in ok_z18
          refine r_getr (k := 53) cls12 fi_12_53.1 fi_12_53.2 q_1061 G w k_a0.1 k_a0.2 e_z18 (dcs_get dec_X12_news_1 19 rfl) ?_
          refine lv_bipush (v := (72 : Int32)) G.hx G.hb (dcs_get dec_X12_news_1 20 rfl) (by decide) ?_
          refine lv_iload G.hx G.hb (dcs_get dec_X12_news_1 21 rfl) (lv_at hl 0 rfl) ?_
          refine lv_iadd G.hx G.hb (dcs_get dec_X12_news_1 22 rfl) ?_
          obtain ⟨h19, hf⟩ := cG_some hf
          refine r_iald G w k_z18.1 k_z18.2 h19 (dcs_get dec_X12_news_1 23 rfl) ?_
          exact B_X12_news_145 (σ.1 z18 ((72 : Int32) + v5).toNatClampNeg) σ G hm  hf  w (lv_sub hl [] rfl)
        · rw [if_pos hc] at hf
          refine lv_bipush (v := (-2 : Int32)) G.hx G.hb (dcs_get dec_X12_news_1 16 rfl) (by decide) ?_
          refine lv_goto (tgt := 145) G.hx G.hb (dcs_get dec_X12_news_1 17 rfl) (by decide) ?_
          exact B_X12_news_145 (-2 : Int32) σ G hm  hf  w (lv_sub hl [] rfl)
      rw [if_neg hc3] at hf
      by_cases hc4 : l3 = (4 : Int32)
      · rw [if_pos hc4] at hf
        refine r_tIn (k := (4 : Int32)) (tgt := 146) G.hx G.hb (dcs_get dec_X12_news_0 17 rfl) hc4 (by decide) rfl (by decide) ?_
        refine lv_aload_n G.hx G.hb (dcs_get dec_X12_news_1 25 rfl) rfl (lv_at hl 1 rfl) ?_
        obtain ⟨z20, e_z20, ok_z20, hf⟩ := cR_some hf
        have k_z20 := okr_in ok_z20
        refine r_getr (k := 53) cls12 fi_12_53.1 fi_12_53.2 q_1061 G w k_a0.1 k_a0.2 e_z20 (dcs_get dec_X12_news_1 26 rfl) ?_
        refine lv_bipush (v := (96 : Int32)) G.hx G.hb (dcs_get dec_X12_news_1 27 rfl) (by decide) ?_
        refine lv_iload G.hx G.hb (dcs_get dec_X12_news_1 28 rfl) (lv_at hl 0 rfl) ?_
        refine lv_iadd G.hx G.hb (dcs_get dec_X12_news_1 29 rfl) ?_
        obtain ⟨h21, hf⟩ := cG_some hf
        refine r_iald G w k_z20.1 k_z20.2 h21 (dcs_get dec_X12_news_1 30 rfl) ?_
        refine lv_iconst (v := (3 : Int32)) G.hx G.hb (dcs_get dec_X12_news_1 31 rfl) (by decide) ?_
        refine lv_icmp_ne (tgt := 164) G.hx G.hb (dcs_get dec_X12_news_1 32 rfl) (by decide) (fun hc => ?_) (fun hc => ?_)
        · rw [if_neg hc] at hf
          refine lv_iconst (v := (0 : Int32)) G.hx G.hb (dcs_get dec_X12_news_1 35 rfl) (by decide) ?_
          exact B_X12_news_165 (0 : Int32) σ G hm  hf  w (lv_sub hl [] rfl)
        · rw [if_pos hc] at hf
          refine lv_iconst (v := (1 : Int32)) G.hx G.hb (dcs_get dec_X12_news_1 33 rfl) (by decide) ?_
          refine lv_goto (tgt := 165) G.hx G.hb (dcs_get dec_X12_news_1 34 rfl) (by decide) ?_
          exact B_X12_news_165 (1 : Int32) σ G hm  hf  w (lv_sub hl [] rfl)
      rw [if_neg hc4] at hf
      refine lv_tableOut (tgt := 166) G.hx G.hb (dcs_get dec_X12_news_0 17 rfl) (ts_out [(0 : Int32), (1 : Int32), (2 : Int32), (3 : Int32), (4 : Int32)] (by intro z h1 h2; simp only [List.map]; rcases (show z = 0 ∨ z = 1 ∨ z = 2 ∨ z = 3 ∨ z = 4 by omega) with h4 | h4 | h4 | h4 | h4 <;> subst h4 <;> decide) (by simp only [List.forall_mem_cons]; exact ⟨hc0, hc1, hc2, hc3, hc4, fun _ h => absurd h List.not_mem_nil⟩)) (by decide) ?_
      refine lv_iconst (v := (-1 : Int32)) G.hx G.hb (dcs_get dec_X12_news_1 37 rfl) (by decide) ?_
      have e9 := Option.some.inj hf
      exact r_iret G w hm e9 rfl (dcs_get dec_X12_news_1 38 rfl)
    · rw [if_pos hc] at hf
      exact B_X12_news_16  σ G hm  hf  w (lv_sub hl [] rfl)
end
set_option maxRecDepth 100000 in
set_option maxHeartbeats 4000000 in
theorem C_X12_news {l : Launch} {D : va_G} {ay : Nat → ClassId} {ad : Nat → Nat} (hi : hInj NM ad) (a0 : Nat) (l1 : Int32) (l2 : Int32) (l3 : Int32) (σ : hSt) {r0 : Int32} (hf : F_X12_news a0 l1 l2 l3 σ = some r0) (ok_a0 : okr kM NM 12 a0 = true) : hM l D ay kM NM ad yX12_news cX12_news 5 ((some .int)) (rmK 2 43) [.ref (ad a0), .int l1, .int l2, .int l3] σ (cI D ay kM NM ad r0 σ) := by
  refine hM_in (by decide) hi (Nat.le_of_ble_eq_true rfl) ?_
  intro p e s m below meth c G hm w ls hl
  exact B_X12_news_0 a0 l1 l2 l3 σ G hm ok_a0 hf w (lv_sub hl [0, 1, 2, 3] rfl)

/-! HillDrumsModel.keeps()V -/
def DL_X12_keeps_0 : List (Nat × Instr × Nat) := [(0, .aload_n 0, 1), (1, .getfield 254, 3), (4, .bipush 40, 2), (6, .if_icmp .ne 44, 3), (9, .iconst 0, 1), (10, .istore_n 1, 1), (11, .iload_n 1, 1), (12, .sipush 14820, 3), (15, .if_icmp .ge 25, 3), (18, .aload_n 0, 1), (19, .getfield 131, 3), (22, .iload_n 1, 1), (23, .aload_n 0, 1), (24, .getfield 131, 3), (27, .iload_n 1, 1), (28, .sipush 380, 3), (31, .iadd, 1), (32, .iaload, 1), (33, .iastore, 1), (34, .iinc 1 1, 3), (37, .goto (-26), 3), (40, .aload_n 0, 1), (41, .dup, 1), (42, .getfield 254, 3), (45, .iconst 1, 1), (46, .isub, 1), (47, .putfield 254, 3), (50, .iconst 0, 1), (51, .istore_n 1, 1), (52, .iload_n 1, 1), (53, .sipush 380, 3), (56, .if_icmp .ge 30, 3), (59, .aload_n 0, 1), (60, .getfield 131, 3), (63, .sipush 380, 3), (66, .aload_n 0, 1), (67, .getfield 254, 3), (70, .imul, 1), (71, .iload_n 1, 1), (72, .iadd, 1)]
set_option maxRecDepth 100000 in
theorem dec_X12_keeps_0 : dcs cX12_keeps DL_X12_keeps_0 = true := by decide +kernel
def DL_X12_keeps_1 : List (Nat × Instr × Nat) := [(73, .aload_n 0, 1), (74, .getfield 125, 3), (77, .iload_n 1, 1), (78, .iaload, 1), (79, .iastore, 1), (80, .iinc 1 1, 3), (83, .goto (-31), 3), (86, .aload_n 0, 1), (87, .dup, 1), (88, .getfield 254, 3), (91, .iconst 1, 1), (92, .iadd, 1), (93, .putfield 254, 3), (96, .aload_n 0, 1), (97, .invokevirtual 165, 3), (100, .return_, 1)]
set_option maxRecDepth 100000 in
theorem dec_X12_keeps_1 : dcs cX12_keeps DL_X12_keeps_1 = true := by decide +kernel
theorem lb_X12_keeps : lkB yX12_keeps cX12_keeps 2 (none) 0 := ⟨q_1415, q_14, ⟨by decide, by decide⟩, by decide +kernel⟩
theorem lv_X12_keeps : lkV yX12_keeps := ⟨q_1414, qs_106⟩
def F_X12_keeps_52b (a0 : Nat) (l1 : Int32) (σ : hSt) : Option ((Int32 × hSt) ⊕ (hSt)) :=
if (380 : Int32) ≤ l1 then (
cL (uI σ a0 57 ((σ.1 a0 57) + (1 : Int32))) fun σ1 =>
(F_X12_keepsRow a0 σ1).bind fun σ3 =>
some (.inr (σ3))) else (
cR (σ.2.2 a0 58) (okr kM NM 101) fun z4 =>
cR (σ.2.2 a0 53) (okr kM NM 101) fun z5 =>
cG (inb l1 (kM z5).2) <|
cG (inb (((380 : Int32) * (σ.1 a0 57)) + l1) (kM z4).2) <|
cL (uI σ z4 (((380 : Int32) * (σ.1 a0 57)) + l1).toNatClampNeg (σ.1 z5 l1.toNatClampNeg)) fun σ8 =>
cL (l1 + (1 : Int32)) fun v9 =>
some (.inl (v9, σ8)))
def S_X12_keeps_52 (a0 : Nat) (v : Int32 × hSt) : Option ((Int32 × hSt) ⊕ (hSt)) := F_X12_keeps_52b a0 v.1 v.2
def F_X12_keeps_52 (a0 : Nat) (l1 : Int32) (σ : hSt) : Option (hSt) := lp (S_X12_keeps_52 a0) fuel (l1, σ)
def F_X12_keeps_50 (a0 : Nat) (σ : hSt) : Option (hSt) :=
F_X12_keeps_52 a0 (0 : Int32) σ
def F_X12_keeps_11b (a0 : Nat) (l1 : Int32) (σ : hSt) : Option ((Int32 × hSt) ⊕ (hSt)) :=
if (14820 : Int32) ≤ l1 then (
cL (uI σ a0 57 ((σ.1 a0 57) - (1 : Int32))) fun σ10 =>
(F_X12_keeps_50 a0 σ10).map (fun x => .inr (x))) else (
cR (σ.2.2 a0 58) (okr kM NM 101) fun z11 =>
cR (σ.2.2 a0 58) (okr kM NM 101) fun z12 =>
cG (inb (l1 + (380 : Int32)) (kM z12).2) <|
cG (inb l1 (kM z11).2) <|
cL (uI σ z11 l1.toNatClampNeg (σ.1 z12 (l1 + (380 : Int32)).toNatClampNeg)) fun σ15 =>
cL (l1 + (1 : Int32)) fun v16 =>
some (.inl (v16, σ15)))
def S_X12_keeps_11 (a0 : Nat) (v : Int32 × hSt) : Option ((Int32 × hSt) ⊕ (hSt)) := F_X12_keeps_11b a0 v.1 v.2
def F_X12_keeps_11 (a0 : Nat) (l1 : Int32) (σ : hSt) : Option (hSt) := lp (S_X12_keeps_11 a0) fuel (l1, σ)
def F_X12_keeps (a0 : Nat) (σ : hSt) : Option (hSt) :=
if (σ.1 a0 57) = (40 : Int32) then (
F_X12_keeps_11 a0 (0 : Int32) σ) else (
F_X12_keeps_50 a0 σ)
section
variable {p : Program} {l : Launch} {e : Env} {s : State} {m : MethodId} {args : Array Value} {below : List Frame} {meth : Method} {c : Code} {D : va_G} {ay : Nat → ClassId} {ad : Nat → Nat}
set_option maxRecDepth 100000 in
set_option maxHeartbeats 4000000 in
theorem B_X12_keeps_52b {H : Heap} {locs : List Loc} {ls : Array Slot} {σ0 : hSt} {o : (Int32 × hSt) ⊕ (hSt)} (a0 : Nat) (l1 : Int32) (σ : hSt) (G : Gx p m c cX12_keeps 2 s args RX12 D ay NM ad (aN NM ad)) (hm : meth.sig.returnType = none ∧ meth.locks = false) (ok_a0 : okr kM NM 12 a0 = true) (hf : F_X12_keeps_52b a0 l1 σ = some o) (hb0 : ∀ (v : Int32 × hSt), o = .inl v → ∀ (H : Heap) (locs : List Loc) (ls : Array Slot), Wd D ay kM NM ad (aN NM ad) s v.2 H locs → lv_has ls 2 [(0, .ref (ad a0)), (1, .int v.1)] → W p l e (rmK 1 21) s m args below meth c H locs 0 0 (MQ below (cV D ay kM NM ad σ0) args s 0 0 (aN NM ad)) (F0 m 52 ls [])) (hr : ∀ x, o = .inr (x) → x = σ0) (w : Wd D ay kM NM ad (aN NM ad) s σ H locs) (hl : lv_has ls 2 [(0, .ref (ad a0)), (1, .int l1)]) : W p l e (rmK 1 21) s m args below meth c H locs 0 0 (MQ below (cV D ay kM NM ad σ0) args s 0 0 (aN NM ad)) (F0 m 52 ls []) := by
  have k_a0 := okr_in ok_a0
  unfold F_X12_keeps_52b at hf
  refine lv_iload_n G.hx G.hb (dcs_get dec_X12_keeps_0 29 rfl) rfl (lv_at hl 1 rfl) ?_
  refine lv_sipush (v := (380 : Int32)) G.hx G.hb (dcs_get dec_X12_keeps_0 30 rfl) (by decide) ?_
  refine lv_icmp_ge (tgt := 86) G.hx G.hb (dcs_get dec_X12_keeps_0 31 rfl) (by decide) (fun hc => ?_) (fun hc => ?_)
  · rw [if_pos hc] at hf
    refine lv_aload_n G.hx G.hb (dcs_get dec_X12_keeps_1 7 rfl) rfl (lv_at hl 0 rfl) ?_
    refine lv_dup G.hx G.hb (dcs_get dec_X12_keeps_1 8 rfl) rfl ?_
    refine r_geti (k := 57) cls12 fi_12_57.1 fi_12_57.2 q_1065 G w k_a0.1 k_a0.2 (dcs_get dec_X12_keeps_1 9 rfl) ?_
    refine lv_iconst (v := (1 : Int32)) G.hx G.hb (dcs_get dec_X12_keeps_1 10 rfl) (by decide) ?_
    refine lv_iadd G.hx G.hb (dcs_get dec_X12_keeps_1 11 rfl) ?_
    obtain ⟨σ1, e_σ1, hf⟩ := cL_some hf
    refine r_puti (k := 57) cls12 ct12 fi_12_57.1 fi_12_57.2 fp_12_57.1 fp_12_57.2 q_1065 rfl rfl G w k_a0.1 k_a0.2 (dcs_get dec_X12_keeps_1 12 rfl) (fun H locs w => ?_)
    have w := Wd.nm e_σ1 w
    refine lv_aload_n G.hx G.hb (dcs_get dec_X12_keeps_1 13 rfl) rfl (lv_at hl 0 rfl) ?_
    obtain ⟨σ3, h2, hf⟩ := cB_some hf
    refine a_v (k_V (As := []) (rest := []) cls12 lb_X12_keepsRow lv_X12_keepsRow q_1005 (C_X12_keepsRow G.2.2.1 a0 σ1 h2 ok_a0) ⟨(Nat.le_of_ble_eq_true rfl), (Nat.le_of_ble_eq_true rfl)⟩ G w k_a0.1 k_a0.2 rfl rfl hl.1 (Nat.le_of_ble_eq_true rfl) (dcs_get dec_X12_keeps_1 14 rfl) ⟨Nat.le_refl _, Nat.le_refl _⟩) G w (fun H locs w => ?_)
    have e9 := hr _ (Option.some.inj hf).symm
    exact r_vret G w hm e9 (dcs_get dec_X12_keeps_1 15 rfl)
  · rw [if_neg hc] at hf
    refine lv_aload_n G.hx G.hb (dcs_get dec_X12_keeps_0 32 rfl) rfl (lv_at hl 0 rfl) ?_
    obtain ⟨z4, e_z4, ok_z4, hf⟩ := cR_some hf
    have k_z4 := okr_in ok_z4
    refine r_getr (k := 58) cls12 fi_12_58.1 fi_12_58.2 q_1066 G w k_a0.1 k_a0.2 e_z4 (dcs_get dec_X12_keeps_0 33 rfl) ?_
    refine lv_sipush (v := (380 : Int32)) G.hx G.hb (dcs_get dec_X12_keeps_0 34 rfl) (by decide) ?_
    refine lv_aload_n G.hx G.hb (dcs_get dec_X12_keeps_0 35 rfl) rfl (lv_at hl 0 rfl) ?_
    refine r_geti (k := 57) cls12 fi_12_57.1 fi_12_57.2 q_1065 G w k_a0.1 k_a0.2 (dcs_get dec_X12_keeps_0 36 rfl) ?_
    refine lv_imul G.hx G.hb (dcs_get dec_X12_keeps_0 37 rfl) ?_
    refine lv_iload_n G.hx G.hb (dcs_get dec_X12_keeps_0 38 rfl) rfl (lv_at hl 1 rfl) ?_
    refine lv_iadd G.hx G.hb (dcs_get dec_X12_keeps_0 39 rfl) ?_
    refine lv_aload_n G.hx G.hb (dcs_get dec_X12_keeps_1 0 rfl) rfl (lv_at hl 0 rfl) ?_
    obtain ⟨z5, e_z5, ok_z5, hf⟩ := cR_some hf
    have k_z5 := okr_in ok_z5
    refine r_getr (k := 53) cls12 fi_12_53.1 fi_12_53.2 q_1061 G w k_a0.1 k_a0.2 e_z5 (dcs_get dec_X12_keeps_1 1 rfl) ?_
    refine lv_iload_n G.hx G.hb (dcs_get dec_X12_keeps_1 2 rfl) rfl (lv_at hl 1 rfl) ?_
    obtain ⟨h6, hf⟩ := cG_some hf
    refine r_iald G w k_z5.1 k_z5.2 h6 (dcs_get dec_X12_keeps_1 3 rfl) ?_
    obtain ⟨h7, hf⟩ := cG_some hf
    obtain ⟨σ8, e_σ8, hf⟩ := cL_some hf
    refine r_iast G w k_z4.1 k_z4.2 h7 (dcs_get dec_X12_keeps_1 4 rfl) (fun H locs w => ?_)
    have w := Wd.nm e_σ8 w
    obtain ⟨v9, e_v9, hf⟩ := cL_some hf
    refine lv_iinc (v := v9) (lv' := [(1, .int v9), (0, .ref (ad a0))]) G.hx G.hb (dcs_get dec_X12_keeps_1 5 rfl) hl (k := 1) rfl (by rw [e_v9]; rfl) (by decide) rfl (fun ls hl => ?_)
    refine lv_goto (tgt := 52) G.hx G.hb (dcs_get dec_X12_keeps_1 6 rfl) (by decide) ?_
    exact hb0 _ (Option.some.inj hf).symm _ _ _ w (lv_sub hl [1, 0] rfl)
set_option maxRecDepth 100000 in
set_option maxHeartbeats 4000000 in
theorem H_X12_keeps_52 {σ0 : hSt} (a0 : Nat) (G : Gx p m c cX12_keeps 2 s args RX12 D ay NM ad (aN NM ad)) (hm : meth.sig.returnType = none ∧ meth.locks = false) (ok_a0 : okr kM NM 12 a0 = true)  : ∀ (k : Nat) (v : Int32 × hSt), lp (S_X12_keeps_52 a0) k v = some σ0 → ∀ (H : Heap) (locs : List Loc) (ls : Array Slot), Wd D ay kM NM ad (aN NM ad) s v.2 H locs → lv_has ls 2 [(0, .ref (ad a0)), (1, .int v.1)] → W p l e (rmK 1 21) s m args below meth c H locs 0 0 (MQ below (cV D ay kM NM ad σ0) args s 0 0 (aN NM ad)) (F0 m 52 ls []) := by
  intro k
  induction k with
  | zero => intro v hf; cases hf
  | succ k ih =>
    intro v hf H locs ls w hl
    obtain ⟨o1, h1, h2, h3⟩ := lp_some hf
    exact B_X12_keeps_52b a0 v.1 v.2 G hm ok_a0 h1  (fun v' e => ih v' (h2 v' e)) (fun x e => h3 x e) w hl
set_option maxRecDepth 100000 in
set_option maxHeartbeats 4000000 in
theorem B_X12_keeps_52 {H : Heap} {locs : List Loc} {ls : Array Slot} {σ0 : hSt} (a0 : Nat) (l1 : Int32) (σ : hSt) (G : Gx p m c cX12_keeps 2 s args RX12 D ay NM ad (aN NM ad)) (hm : meth.sig.returnType = none ∧ meth.locks = false) (ok_a0 : okr kM NM 12 a0 = true) (hf : F_X12_keeps_52 a0 l1 σ = some σ0)  (w : Wd D ay kM NM ad (aN NM ad) s σ H locs) (hl : lv_has ls 2 [(0, .ref (ad a0)), (1, .int l1)]) : W p l e (rmK 1 21) s m args below meth c H locs 0 0 (MQ below (cV D ay kM NM ad σ0) args s 0 0 (aN NM ad)) (F0 m 52 ls []) := by
  unfold F_X12_keeps_52 at hf
  exact H_X12_keeps_52 a0  G hm ok_a0  fuel (l1, σ) hf _ _ _ w hl
set_option maxRecDepth 100000 in
set_option maxHeartbeats 4000000 in
theorem B_X12_keeps_50 {H : Heap} {locs : List Loc} {ls : Array Slot} {σ0 : hSt} (a0 : Nat) (σ : hSt) (G : Gx p m c cX12_keeps 2 s args RX12 D ay NM ad (aN NM ad)) (hm : meth.sig.returnType = none ∧ meth.locks = false) (ok_a0 : okr kM NM 12 a0 = true) (hf : F_X12_keeps_50 a0 σ = some σ0)  (w : Wd D ay kM NM ad (aN NM ad) s σ H locs) (hl : lv_has ls 2 [(0, .ref (ad a0))]) : W p l e (rmK 1 21) s m args below meth c H locs 0 0 (MQ below (cV D ay kM NM ad σ0) args s 0 0 (aN NM ad)) (F0 m 50 ls []) := by
  have k_a0 := okr_in ok_a0
  unfold F_X12_keeps_50 at hf
  refine lv_iconst (v := (0 : Int32)) G.hx G.hb (dcs_get dec_X12_keeps_0 27 rfl) (by decide) ?_
  refine lv_istore_n (lv' := [(1, .int (0 : Int32)), (0, .ref (ad a0))]) G.hx G.hb (dcs_get dec_X12_keeps_0 28 rfl) rfl hl (by decide) rfl (fun ls hl => ?_)
  exact B_X12_keeps_52 a0 (0 : Int32) σ G hm ok_a0 hf  w (lv_sub hl [1, 0] rfl)
set_option maxRecDepth 100000 in
set_option maxHeartbeats 4000000 in
theorem B_X12_keeps_11b {H : Heap} {locs : List Loc} {ls : Array Slot} {σ0 : hSt} {o : (Int32 × hSt) ⊕ (hSt)} (a0 : Nat) (l1 : Int32) (σ : hSt) (G : Gx p m c cX12_keeps 2 s args RX12 D ay NM ad (aN NM ad)) (hm : meth.sig.returnType = none ∧ meth.locks = false) (ok_a0 : okr kM NM 12 a0 = true) (hf : F_X12_keeps_11b a0 l1 σ = some o) (hb0 : ∀ (v : Int32 × hSt), o = .inl v → ∀ (H : Heap) (locs : List Loc) (ls : Array Slot), Wd D ay kM NM ad (aN NM ad) s v.2 H locs → lv_has ls 2 [(0, .ref (ad a0)), (1, .int v.1)] → W p l e (rmK 1 21) s m args below meth c H locs 0 0 (MQ below (cV D ay kM NM ad σ0) args s 0 0 (aN NM ad)) (F0 m 11 ls [])) (hr : ∀ x, o = .inr (x) → x = σ0) (w : Wd D ay kM NM ad (aN NM ad) s σ H locs) (hl : lv_has ls 2 [(0, .ref (ad a0)), (1, .int l1)]) : W p l e (rmK 1 21) s m args below meth c H locs 0 0 (MQ below (cV D ay kM NM ad σ0) args s 0 0 (aN NM ad)) (F0 m 11 ls []) := by
  have k_a0 := okr_in ok_a0
  unfold F_X12_keeps_11b at hf
  refine lv_iload_n G.hx G.hb (dcs_get dec_X12_keeps_0 6 rfl) rfl (lv_at hl 1 rfl) ?_
  refine lv_sipush (v := (14820 : Int32)) G.hx G.hb (dcs_get dec_X12_keeps_0 7 rfl) (by decide) ?_
  refine lv_icmp_ge (tgt := 40) G.hx G.hb (dcs_get dec_X12_keeps_0 8 rfl) (by decide) (fun hc => ?_) (fun hc => ?_)
  · rw [if_pos hc] at hf
    refine lv_aload_n G.hx G.hb (dcs_get dec_X12_keeps_0 21 rfl) rfl (lv_at hl 0 rfl) ?_
    refine lv_dup G.hx G.hb (dcs_get dec_X12_keeps_0 22 rfl) rfl ?_
    refine r_geti (k := 57) cls12 fi_12_57.1 fi_12_57.2 q_1065 G w k_a0.1 k_a0.2 (dcs_get dec_X12_keeps_0 23 rfl) ?_
    refine lv_iconst (v := (1 : Int32)) G.hx G.hb (dcs_get dec_X12_keeps_0 24 rfl) (by decide) ?_
    refine lv_isub G.hx G.hb (dcs_get dec_X12_keeps_0 25 rfl) ?_
    obtain ⟨σ10, e_σ10, hf⟩ := cL_some hf
    refine r_puti (k := 57) cls12 ct12 fi_12_57.1 fi_12_57.2 fp_12_57.1 fp_12_57.2 q_1065 rfl rfl G w k_a0.1 k_a0.2 (dcs_get dec_X12_keeps_0 26 rfl) (fun H locs w => ?_)
    have w := Wd.nm e_σ10 w
    obtain ⟨x9, h9, e9⟩ := map_some_inv hf
    subst e9
    have e8 := hr _ rfl
    rw [e8] at h9
    exact B_X12_keeps_50 a0 σ10 G hm ok_a0 h9 w (lv_sub hl [0] rfl)
  · rw [if_neg hc] at hf
    refine lv_aload_n G.hx G.hb (dcs_get dec_X12_keeps_0 9 rfl) rfl (lv_at hl 0 rfl) ?_
    obtain ⟨z11, e_z11, ok_z11, hf⟩ := cR_some hf
    have k_z11 := okr_in ok_z11
    refine r_getr (k := 58) cls12 fi_12_58.1 fi_12_58.2 q_1066 G w k_a0.1 k_a0.2 e_z11 (dcs_get dec_X12_keeps_0 10 rfl) ?_
    refine lv_iload_n G.hx G.hb (dcs_get dec_X12_keeps_0 11 rfl) rfl (lv_at hl 1 rfl) ?_
    refine lv_aload_n G.hx G.hb (dcs_get dec_X12_keeps_0 12 rfl) rfl (lv_at hl 0 rfl) ?_
    obtain ⟨z12, e_z12, ok_z12, hf⟩ := cR_some hf
    have k_z12 := okr_in ok_z12
    refine r_getr (k := 58) cls12 fi_12_58.1 fi_12_58.2 q_1066 G w k_a0.1 k_a0.2 e_z12 (dcs_get dec_X12_keeps_0 13 rfl) ?_
    refine lv_iload_n G.hx G.hb (dcs_get dec_X12_keeps_0 14 rfl) rfl (lv_at hl 1 rfl) ?_
    refine lv_sipush (v := (380 : Int32)) G.hx G.hb (dcs_get dec_X12_keeps_0 15 rfl) (by decide) ?_
    refine lv_iadd G.hx G.hb (dcs_get dec_X12_keeps_0 16 rfl) ?_
    obtain ⟨h13, hf⟩ := cG_some hf
    refine r_iald G w k_z12.1 k_z12.2 h13 (dcs_get dec_X12_keeps_0 17 rfl) ?_
    obtain ⟨h14, hf⟩ := cG_some hf
    obtain ⟨σ15, e_σ15, hf⟩ := cL_some hf
    refine r_iast G w k_z11.1 k_z11.2 h14 (dcs_get dec_X12_keeps_0 18 rfl) (fun H locs w => ?_)
    have w := Wd.nm e_σ15 w
    obtain ⟨v16, e_v16, hf⟩ := cL_some hf
    refine lv_iinc (v := v16) (lv' := [(1, .int v16), (0, .ref (ad a0))]) G.hx G.hb (dcs_get dec_X12_keeps_0 19 rfl) hl (k := 1) rfl (by rw [e_v16]; rfl) (by decide) rfl (fun ls hl => ?_)
    refine lv_goto (tgt := 11) G.hx G.hb (dcs_get dec_X12_keeps_0 20 rfl) (by decide) ?_
    exact hb0 _ (Option.some.inj hf).symm _ _ _ w (lv_sub hl [1, 0] rfl)
set_option maxRecDepth 100000 in
set_option maxHeartbeats 4000000 in
theorem H_X12_keeps_11 {σ0 : hSt} (a0 : Nat) (G : Gx p m c cX12_keeps 2 s args RX12 D ay NM ad (aN NM ad)) (hm : meth.sig.returnType = none ∧ meth.locks = false) (ok_a0 : okr kM NM 12 a0 = true)  : ∀ (k : Nat) (v : Int32 × hSt), lp (S_X12_keeps_11 a0) k v = some σ0 → ∀ (H : Heap) (locs : List Loc) (ls : Array Slot), Wd D ay kM NM ad (aN NM ad) s v.2 H locs → lv_has ls 2 [(0, .ref (ad a0)), (1, .int v.1)] → W p l e (rmK 1 21) s m args below meth c H locs 0 0 (MQ below (cV D ay kM NM ad σ0) args s 0 0 (aN NM ad)) (F0 m 11 ls []) := by
  intro k
  induction k with
  | zero => intro v hf; cases hf
  | succ k ih =>
    intro v hf H locs ls w hl
    obtain ⟨o1, h1, h2, h3⟩ := lp_some hf
    exact B_X12_keeps_11b a0 v.1 v.2 G hm ok_a0 h1  (fun v' e => ih v' (h2 v' e)) (fun x e => h3 x e) w hl
set_option maxRecDepth 100000 in
set_option maxHeartbeats 4000000 in
theorem B_X12_keeps_11 {H : Heap} {locs : List Loc} {ls : Array Slot} {σ0 : hSt} (a0 : Nat) (l1 : Int32) (σ : hSt) (G : Gx p m c cX12_keeps 2 s args RX12 D ay NM ad (aN NM ad)) (hm : meth.sig.returnType = none ∧ meth.locks = false) (ok_a0 : okr kM NM 12 a0 = true) (hf : F_X12_keeps_11 a0 l1 σ = some σ0)  (w : Wd D ay kM NM ad (aN NM ad) s σ H locs) (hl : lv_has ls 2 [(0, .ref (ad a0)), (1, .int l1)]) : W p l e (rmK 1 21) s m args below meth c H locs 0 0 (MQ below (cV D ay kM NM ad σ0) args s 0 0 (aN NM ad)) (F0 m 11 ls []) := by
  unfold F_X12_keeps_11 at hf
  exact H_X12_keeps_11 a0  G hm ok_a0  fuel (l1, σ) hf _ _ _ w hl
set_option maxRecDepth 100000 in
set_option maxHeartbeats 4000000 in
theorem B_X12_keeps_0 {H : Heap} {locs : List Loc} {ls : Array Slot} {σ0 : hSt} (a0 : Nat) (σ : hSt) (G : Gx p m c cX12_keeps 2 s args RX12 D ay NM ad (aN NM ad)) (hm : meth.sig.returnType = none ∧ meth.locks = false) (ok_a0 : okr kM NM 12 a0 = true) (hf : F_X12_keeps a0 σ = some σ0)  (w : Wd D ay kM NM ad (aN NM ad) s σ H locs) (hl : lv_has ls 2 [(0, .ref (ad a0))]) : W p l e (rmK 1 21) s m args below meth c H locs 0 0 (MQ below (cV D ay kM NM ad σ0) args s 0 0 (aN NM ad)) (F0 m 0 ls []) := by
  have k_a0 := okr_in ok_a0
  unfold F_X12_keeps at hf
  refine lv_aload_n G.hx G.hb (dcs_get dec_X12_keeps_0 0 rfl) rfl (lv_at hl 0 rfl) ?_
  refine r_geti (k := 57) cls12 fi_12_57.1 fi_12_57.2 q_1065 G w k_a0.1 k_a0.2 (dcs_get dec_X12_keeps_0 1 rfl) ?_
  refine lv_bipush (v := (40 : Int32)) G.hx G.hb (dcs_get dec_X12_keeps_0 2 rfl) (by decide) ?_
  refine lv_icmp_ne (tgt := 50) G.hx G.hb (dcs_get dec_X12_keeps_0 3 rfl) (by decide) (fun hc => ?_) (fun hc => ?_)
  · rw [if_neg hc] at hf
    exact B_X12_keeps_50 a0 σ G hm ok_a0 hf  w (lv_sub hl [0] rfl)
  · rw [if_pos hc] at hf
    refine lv_iconst (v := (0 : Int32)) G.hx G.hb (dcs_get dec_X12_keeps_0 4 rfl) (by decide) ?_
    refine lv_istore_n (lv' := [(1, .int (0 : Int32)), (0, .ref (ad a0))]) G.hx G.hb (dcs_get dec_X12_keeps_0 5 rfl) rfl hl (by decide) rfl (fun ls hl => ?_)
    exact B_X12_keeps_11 a0 (0 : Int32) σ G hm ok_a0 hf  w (lv_sub hl [1, 0] rfl)
end
set_option maxRecDepth 100000 in
set_option maxHeartbeats 4000000 in
theorem C_X12_keeps {l : Launch} {D : va_G} {ay : Nat → ClassId} {ad : Nat → Nat} (hi : hInj NM ad) (a0 : Nat) (σ : hSt) {σ0 : hSt} (hf : F_X12_keeps a0 σ = some σ0) (ok_a0 : okr kM NM 12 a0 = true) : hM l D ay kM NM ad yX12_keeps cX12_keeps 2 (none) (rmK 1 21) [.ref (ad a0)] σ (cV D ay kM NM ad σ0) := by
  refine hM_in (by decide) hi (Nat.le_of_ble_eq_true rfl) ?_
  intro p e s m below meth c G hm w ls hl
  exact B_X12_keeps_0 a0 σ G hm ok_a0 hf w (lv_sub hl [0] rfl)

/-! HillDrumsModel.mayNow(IIZ)I -/
def DL_X12_mayNow_0 : List (Nat × Instr × Nat) := [(0, .aload_n 0, 1), (1, .iload_n 1, 1), (2, .invokevirtual 342, 3), (5, .ifCond .eq 11, 3), (8, .aload_n 0, 1), (9, .iload_n 2, 1), (10, .invokevirtual 377, 3), (13, .ifCond .ne 5, 3), (16, .iconst (-1), 1), (17, .ireturn, 1), (18, .aload_n 0, 1), (19, .invokevirtual 380, 3), (22, .aload_n 0, 1), (23, .iload_n 1, 1), (24, .iload_n 2, 1), (25, .invokevirtual 354, 3), (28, .ifCond .eq 15, 3), (31, .aload_n 0, 1), (32, .getfield 128, 3), (35, .bipush 121, 2), (37, .iaload, 1), (38, .bipush 60, 2), (40, .if_icmp .ne 6, 3), (43, .bipush (-3), 2), (45, .ireturn, 1), (46, .aload_n 0, 1), (47, .iload_n 1, 1), (48, .iload_n 2, 1), (49, .iload_n 3, 1), (50, .ifCond .eq 7, 3), (53, .iconst 1, 1), (54, .goto 4, 3), (57, .iconst 0, 1), (58, .invokevirtual 358, 3), (61, .ifCond .eq 7, 3), (64, .iconst 0, 1), (65, .goto 4, 3), (68, .iconst 1, 1), (69, .ireturn, 1)]
set_option maxRecDepth 100000 in
theorem dec_X12_mayNow_0 : dcs cX12_mayNow DL_X12_mayNow_0 = true := by decide +kernel
theorem lb_X12_mayNow : lkB yX12_mayNow cX12_mayNow 4 ((some .int)) 3 := ⟨q_1387, q_14, ⟨by decide, by decide⟩, by decide +kernel⟩
theorem lv_X12_mayNow : lkV yX12_mayNow := ⟨q_1386, qs_99⟩
def F_X12_mayNow_16  (σ : hSt) : Option (Int32 × hSt) :=
some (((-1 : Int32), σ))
def F_X12_mayNow_43  (σ : hSt) : Option (Int32 × hSt) :=
some (((-3 : Int32), σ))
def F_X12_mayNow_69 (s0 : Int32) (σ : hSt) : Option (Int32 × hSt) :=
some ((s0, σ))
def F_X12_mayNow_58 (s0 : Nat) (s1 : Int32) (s2 : Int32) (s3 : Int32) (σ : hSt) : Option (Int32 × hSt) :=
(F_X12_isAnswer s0 s1 s2 s3 σ).bind fun v2 =>
if v2 = 0 then (
F_X12_mayNow_69 (1 : Int32) σ) else (
F_X12_mayNow_69 (0 : Int32) σ)
def F_X12_mayNow (a0 : Nat) (l1 : Int32) (l2 : Int32) (l3 : Int32) (σ : hSt) : Option (Int32 × hSt) :=
(F_X12_isHill a0 l1 σ).bind fun v4 =>
if v4 = 0 then (
F_X12_mayNow_16  σ) else (
(F_X12_isNews a0 l2 σ).bind fun v6 =>
if v6 = 0 then (
F_X12_mayNow_16  σ) else (
(F_X12_copies a0 σ).bind fun σ8 =>
(F_X12_knows a0 l1 l2 σ8).bind fun v10 =>
if v10 = 0 then (
F_X12_mayNow_43  σ8) else (
cR (σ8.2.2 a0 54) (okr kM NM 101) fun z11 =>
cG (inb (121 : Int32) (kM z11).2) <|
if (σ8.1 z11 (121 : Int32).toNatClampNeg) = (60 : Int32) then (
F_X12_mayNow_43  σ8) else (
if l3 = 0 then (
F_X12_mayNow_58 a0 l1 l2 (0 : Int32) σ8) else (
F_X12_mayNow_58 a0 l1 l2 (1 : Int32) σ8)))))
section
variable {p : Program} {l : Launch} {e : Env} {s : State} {m : MethodId} {args : Array Value} {below : List Frame} {meth : Method} {c : Code} {D : va_G} {ay : Nat → ClassId} {ad : Nat → Nat}
set_option maxRecDepth 100000 in
set_option maxHeartbeats 4000000 in
theorem B_X12_mayNow_16 {H : Heap} {locs : List Loc} {ls : Array Slot} {r0 : Int32} {σ0 : hSt}  (σ : hSt) (G : Gx p m c cX12_mayNow 4 s args RX12 D ay NM ad (aN NM ad)) (hm : meth.sig.returnType = (some .int) ∧ meth.locks = false)  (hf : F_X12_mayNow_16  σ = some (r0, σ0))  (w : Wd D ay kM NM ad (aN NM ad) s σ H locs) (hl : lv_has ls 4 []) : W p l e (rmK 2 43) s m args below meth c H locs 0 0 (MQ below (cI D ay kM NM ad r0 σ0) args s 0 0 (aN NM ad)) (F0 m 16 ls []) := by
  unfold F_X12_mayNow_16 at hf
  refine lv_iconst (v := (-1 : Int32)) G.hx G.hb (dcs_get dec_X12_mayNow_0 8 rfl) (by decide) ?_
  have e9 := Option.some.inj hf
  exact r_iret G w hm (congrArg Prod.fst e9) (congrArg Prod.snd e9) (dcs_get dec_X12_mayNow_0 9 rfl)
set_option maxRecDepth 100000 in
set_option maxHeartbeats 4000000 in
theorem B_X12_mayNow_43 {H : Heap} {locs : List Loc} {ls : Array Slot} {r0 : Int32} {σ0 : hSt}  (σ : hSt) (G : Gx p m c cX12_mayNow 4 s args RX12 D ay NM ad (aN NM ad)) (hm : meth.sig.returnType = (some .int) ∧ meth.locks = false)  (hf : F_X12_mayNow_43  σ = some (r0, σ0))  (w : Wd D ay kM NM ad (aN NM ad) s σ H locs) (hl : lv_has ls 4 []) : W p l e (rmK 2 43) s m args below meth c H locs 0 0 (MQ below (cI D ay kM NM ad r0 σ0) args s 0 0 (aN NM ad)) (F0 m 43 ls []) := by
  unfold F_X12_mayNow_43 at hf
  refine lv_bipush (v := (-3 : Int32)) G.hx G.hb (dcs_get dec_X12_mayNow_0 23 rfl) (by decide) ?_
  have e9 := Option.some.inj hf
  exact r_iret G w hm (congrArg Prod.fst e9) (congrArg Prod.snd e9) (dcs_get dec_X12_mayNow_0 24 rfl)
set_option maxRecDepth 100000 in
set_option maxHeartbeats 4000000 in
theorem B_X12_mayNow_69 {H : Heap} {locs : List Loc} {ls : Array Slot} {r0 : Int32} {σ0 : hSt} (s0 : Int32) (σ : hSt) (G : Gx p m c cX12_mayNow 4 s args RX12 D ay NM ad (aN NM ad)) (hm : meth.sig.returnType = (some .int) ∧ meth.locks = false)  (hf : F_X12_mayNow_69 s0 σ = some (r0, σ0))  (w : Wd D ay kM NM ad (aN NM ad) s σ H locs) (hl : lv_has ls 4 []) : W p l e (rmK 2 43) s m args below meth c H locs 0 0 (MQ below (cI D ay kM NM ad r0 σ0) args s 0 0 (aN NM ad)) (F0 m 69 ls [.int s0]) := by
  unfold F_X12_mayNow_69 at hf
  have e9 := Option.some.inj hf
  exact r_iret G w hm (congrArg Prod.fst e9) (congrArg Prod.snd e9) (dcs_get dec_X12_mayNow_0 38 rfl)
set_option maxRecDepth 100000 in
set_option maxHeartbeats 4000000 in
theorem B_X12_mayNow_58 {H : Heap} {locs : List Loc} {ls : Array Slot} {r0 : Int32} {σ0 : hSt} (s0 : Nat) (s1 : Int32) (s2 : Int32) (s3 : Int32) (σ : hSt) (G : Gx p m c cX12_mayNow 4 s args RX12 D ay NM ad (aN NM ad)) (hm : meth.sig.returnType = (some .int) ∧ meth.locks = false) (ok_s0 : okr kM NM 12 s0 = true) (hf : F_X12_mayNow_58 s0 s1 s2 s3 σ = some (r0, σ0))  (w : Wd D ay kM NM ad (aN NM ad) s σ H locs) (hl : lv_has ls 4 []) : W p l e (rmK 2 43) s m args below meth c H locs 0 0 (MQ below (cI D ay kM NM ad r0 σ0) args s 0 0 (aN NM ad)) (F0 m 58 ls [.int s3, .int s2, .int s1, .ref (ad s0)]) := by
  have k_s0 := okr_in ok_s0
  unfold F_X12_mayNow_58 at hf
  obtain ⟨v2, h1, hf⟩ := cB_some hf
  refine a_i (k_V (As := [.int s1, .int s2, .int s3]) (rest := []) cls12 lb_X12_isAnswer lv_X12_isAnswer q_1396 (C_X12_isAnswer G.2.2.1 s0 s1 s2 s3 σ h1 ok_s0) ⟨(Nat.le_of_ble_eq_true rfl), (Nat.le_of_ble_eq_true rfl)⟩ G w k_s0.1 k_s0.2 rfl rfl hl.1 (Nat.le_of_ble_eq_true rfl) (dcs_get dec_X12_mayNow_0 33 rfl) ⟨Nat.le_refl _, Nat.le_refl _⟩) G w (fun H locs w => ?_)
  refine lv_if_eq (tgt := 68) G.hx G.hb (dcs_get dec_X12_mayNow_0 34 rfl) (by decide) (fun hc => ?_) (fun hc => ?_)
  · rw [if_pos hc] at hf
    refine lv_iconst (v := (1 : Int32)) G.hx G.hb (dcs_get dec_X12_mayNow_0 37 rfl) (by decide) ?_
    exact B_X12_mayNow_69 (1 : Int32) σ G hm  hf  w (lv_sub hl [] rfl)
  · rw [if_neg hc] at hf
    refine lv_iconst (v := (0 : Int32)) G.hx G.hb (dcs_get dec_X12_mayNow_0 35 rfl) (by decide) ?_
    refine lv_goto (tgt := 69) G.hx G.hb (dcs_get dec_X12_mayNow_0 36 rfl) (by decide) ?_
    exact B_X12_mayNow_69 (0 : Int32) σ G hm  hf  w (lv_sub hl [] rfl)
set_option maxRecDepth 100000 in
set_option maxHeartbeats 4000000 in
theorem B_X12_mayNow_0 {H : Heap} {locs : List Loc} {ls : Array Slot} {r0 : Int32} {σ0 : hSt} (a0 : Nat) (l1 : Int32) (l2 : Int32) (l3 : Int32) (σ : hSt) (G : Gx p m c cX12_mayNow 4 s args RX12 D ay NM ad (aN NM ad)) (hm : meth.sig.returnType = (some .int) ∧ meth.locks = false) (ok_a0 : okr kM NM 12 a0 = true) (hf : F_X12_mayNow a0 l1 l2 l3 σ = some (r0, σ0))  (w : Wd D ay kM NM ad (aN NM ad) s σ H locs) (hl : lv_has ls 4 [(0, .ref (ad a0)), (1, .int l1), (2, .int l2), (3, .int l3)]) : W p l e (rmK 2 43) s m args below meth c H locs 0 0 (MQ below (cI D ay kM NM ad r0 σ0) args s 0 0 (aN NM ad)) (F0 m 0 ls []) := by
  have k_a0 := okr_in ok_a0
  unfold F_X12_mayNow at hf
  refine lv_aload_n G.hx G.hb (dcs_get dec_X12_mayNow_0 0 rfl) rfl (lv_at hl 0 rfl) ?_
  refine lv_iload_n G.hx G.hb (dcs_get dec_X12_mayNow_0 1 rfl) rfl (lv_at hl 1 rfl) ?_
  obtain ⟨v4, h3, hf⟩ := cB_some hf
  refine a_i (k_V (As := [.int l1]) (rest := []) cls12 lb_X12_isHill lv_X12_isHill q_1346 (C_X12_isHill G.2.2.1 a0 l1 σ h3 ok_a0) ⟨(Nat.le_of_ble_eq_true rfl), (Nat.le_of_ble_eq_true rfl)⟩ G w k_a0.1 k_a0.2 rfl rfl hl.1 (Nat.le_of_ble_eq_true rfl) (dcs_get dec_X12_mayNow_0 2 rfl) ⟨Nat.le_refl _, Nat.le_refl _⟩) G w (fun H locs w => ?_)
  refine lv_if_eq (tgt := 16) G.hx G.hb (dcs_get dec_X12_mayNow_0 3 rfl) (by decide) (fun hc => ?_) (fun hc => ?_)
  · rw [if_pos hc] at hf
    exact B_X12_mayNow_16  σ G hm  hf  w (lv_sub hl [] rfl)
  · rw [if_neg hc] at hf
    refine lv_aload_n G.hx G.hb (dcs_get dec_X12_mayNow_0 4 rfl) rfl (lv_at hl 0 rfl) ?_
    refine lv_iload_n G.hx G.hb (dcs_get dec_X12_mayNow_0 5 rfl) rfl (lv_at hl 2 rfl) ?_
    obtain ⟨v6, h5, hf⟩ := cB_some hf
    refine a_i (k_V (As := [.int l2]) (rest := []) cls12 lb_X12_isNews lv_X12_isNews q_1376 (C_X12_isNews G.2.2.1 a0 l2 σ h5 ok_a0) ⟨(Nat.le_of_ble_eq_true rfl), (Nat.le_of_ble_eq_true rfl)⟩ G w k_a0.1 k_a0.2 rfl rfl hl.1 (Nat.le_of_ble_eq_true rfl) (dcs_get dec_X12_mayNow_0 6 rfl) ⟨Nat.le_refl _, Nat.le_refl _⟩) G w (fun H locs w => ?_)
    refine lv_if_ne (tgt := 18) G.hx G.hb (dcs_get dec_X12_mayNow_0 7 rfl) (by decide) (fun hc => ?_) (fun hc => ?_)
    · rw [if_neg hc] at hf
      refine lv_aload_n G.hx G.hb (dcs_get dec_X12_mayNow_0 10 rfl) rfl (lv_at hl 0 rfl) ?_
      obtain ⟨σ8, h7, hf⟩ := cB_some hf
      refine a_v (k_V (As := []) (rest := []) cls12 lb_X12_copies lv_X12_copies q_1388 (C_X12_copies G.2.2.1 a0 σ h7 ok_a0) ⟨(Nat.le_of_ble_eq_true rfl), (Nat.le_of_ble_eq_true rfl)⟩ G w k_a0.1 k_a0.2 rfl rfl hl.1 (Nat.le_of_ble_eq_true rfl) (dcs_get dec_X12_mayNow_0 11 rfl) ⟨Nat.le_refl _, Nat.le_refl _⟩) G w (fun H locs w => ?_)
      refine lv_aload_n G.hx G.hb (dcs_get dec_X12_mayNow_0 12 rfl) rfl (lv_at hl 0 rfl) ?_
      refine lv_iload_n G.hx G.hb (dcs_get dec_X12_mayNow_0 13 rfl) rfl (lv_at hl 1 rfl) ?_
      refine lv_iload_n G.hx G.hb (dcs_get dec_X12_mayNow_0 14 rfl) rfl (lv_at hl 2 rfl) ?_
      obtain ⟨v10, h9, hf⟩ := cB_some hf
      refine a_i (k_V (As := [.int l1, .int l2]) (rest := []) cls12 lb_X12_knows lv_X12_knows q_1392 (C_X12_knows G.2.2.1 a0 l1 l2 σ8 h9 ok_a0) ⟨(Nat.le_of_ble_eq_true rfl), (Nat.le_of_ble_eq_true rfl)⟩ G w k_a0.1 k_a0.2 rfl rfl hl.1 (Nat.le_of_ble_eq_true rfl) (dcs_get dec_X12_mayNow_0 15 rfl) ⟨Nat.le_refl _, Nat.le_refl _⟩) G w (fun H locs w => ?_)
      refine lv_if_eq (tgt := 43) G.hx G.hb (dcs_get dec_X12_mayNow_0 16 rfl) (by decide) (fun hc => ?_) (fun hc => ?_)
      · rw [if_pos hc] at hf
        exact B_X12_mayNow_43  σ8 G hm  hf  w (lv_sub hl [] rfl)
      · rw [if_neg hc] at hf
        refine lv_aload_n G.hx G.hb (dcs_get dec_X12_mayNow_0 17 rfl) rfl (lv_at hl 0 rfl) ?_
        obtain ⟨z11, e_z11, ok_z11, hf⟩ := cR_some hf
        have k_z11 := okr_in ok_z11
        refine r_getr (k := 54) cls12 fi_12_54.1 fi_12_54.2 q_1062 G w k_a0.1 k_a0.2 e_z11 (dcs_get dec_X12_mayNow_0 18 rfl) ?_
        refine lv_bipush (v := (121 : Int32)) G.hx G.hb (dcs_get dec_X12_mayNow_0 19 rfl) (by decide) ?_
        obtain ⟨h12, hf⟩ := cG_some hf
        refine r_iald G w k_z11.1 k_z11.2 h12 (dcs_get dec_X12_mayNow_0 20 rfl) ?_
        refine lv_bipush (v := (60 : Int32)) G.hx G.hb (dcs_get dec_X12_mayNow_0 21 rfl) (by decide) ?_
        refine lv_icmp_ne (tgt := 46) G.hx G.hb (dcs_get dec_X12_mayNow_0 22 rfl) (by decide) (fun hc => ?_) (fun hc => ?_)
        · rw [if_neg hc] at hf
          refine lv_aload_n G.hx G.hb (dcs_get dec_X12_mayNow_0 25 rfl) rfl (lv_at hl 0 rfl) ?_
          refine lv_iload_n G.hx G.hb (dcs_get dec_X12_mayNow_0 26 rfl) rfl (lv_at hl 1 rfl) ?_
          refine lv_iload_n G.hx G.hb (dcs_get dec_X12_mayNow_0 27 rfl) rfl (lv_at hl 2 rfl) ?_
          refine lv_iload_n G.hx G.hb (dcs_get dec_X12_mayNow_0 28 rfl) rfl (lv_at hl 3 rfl) ?_
          refine lv_if_eq (tgt := 57) G.hx G.hb (dcs_get dec_X12_mayNow_0 29 rfl) (by decide) (fun hc => ?_) (fun hc => ?_)
          · rw [if_pos hc] at hf
            refine lv_iconst (v := (0 : Int32)) G.hx G.hb (dcs_get dec_X12_mayNow_0 32 rfl) (by decide) ?_
            exact B_X12_mayNow_58 a0 l1 l2 (0 : Int32) σ8 G hm ok_a0 hf  w (lv_sub hl [] rfl)
          · rw [if_neg hc] at hf
            refine lv_iconst (v := (1 : Int32)) G.hx G.hb (dcs_get dec_X12_mayNow_0 30 rfl) (by decide) ?_
            refine lv_goto (tgt := 58) G.hx G.hb (dcs_get dec_X12_mayNow_0 31 rfl) (by decide) ?_
            exact B_X12_mayNow_58 a0 l1 l2 (1 : Int32) σ8 G hm ok_a0 hf  w (lv_sub hl [] rfl)
        · rw [if_pos hc] at hf
          exact B_X12_mayNow_43  σ8 G hm  hf  w (lv_sub hl [] rfl)
    · rw [if_pos hc] at hf
      exact B_X12_mayNow_16  σ G hm  hf  w (lv_sub hl [] rfl)
end
set_option maxRecDepth 100000 in
set_option maxHeartbeats 4000000 in
theorem C_X12_mayNow {l : Launch} {D : va_G} {ay : Nat → ClassId} {ad : Nat → Nat} (hi : hInj NM ad) (a0 : Nat) (l1 : Int32) (l2 : Int32) (l3 : Int32) (σ : hSt) {r0 : Int32} {σ0 : hSt} (hf : F_X12_mayNow a0 l1 l2 l3 σ = some (r0, σ0)) (ok_a0 : okr kM NM 12 a0 = true) : hM l D ay kM NM ad yX12_mayNow cX12_mayNow 4 ((some .int)) (rmK 2 43) [.ref (ad a0), .int l1, .int l2, .int l3] σ (cI D ay kM NM ad r0 σ0) := by
  refine hM_in (by decide) hi (Nat.le_of_ble_eq_true rfl) ?_
  intro p e s m below meth c G hm w ls hl
  exact B_X12_mayNow_0 a0 l1 l2 l3 σ G hm ok_a0 hf w (lv_sub hl [0, 1, 2, 3] rfl)

/-! HillDrumsModel.drum(IIZ)I -/
def DL_X12_drum_0 : List (Nat × Instr × Nat) := [(0, .aload_n 0, 1), (1, .iload_n 1, 1), (2, .iload_n 2, 1), (3, .iload_n 3, 1), (4, .invokevirtual 383, 3), (7, .istore 4, 2), (9, .iload 4, 2), (11, .iconst 1, 1), (12, .if_icmp .ge 16, 3), (15, .iload 4, 2), (17, .ifCond .ne 8, 3), (20, .bipush (-2), 2), (22, .goto 5, 3), (25, .iload 4, 2), (27, .ireturn, 1), (28, .aload_n 0, 1), (29, .aload_n 0, 1), (30, .getfield 128, 3), (33, .bipush 120, 2), (35, .iaload, 1), (36, .invokevirtual 365, 3), (39, .aload_n 0, 1), (40, .iload_n 1, 1), (41, .iload_n 2, 1), (42, .iload_n 3, 1), (43, .ifCond .eq 7, 3), (46, .iconst 1, 1), (47, .goto 4, 3), (50, .iconst 0, 1), (51, .invokevirtual 371, 3), (54, .istore 5, 2), (56, .aload_n 0, 1), (57, .invokevirtual 387, 3), (60, .iload 5, 2), (62, .ireturn, 1)]
set_option maxRecDepth 100000 in
theorem dec_X12_drum_0 : dcs cX12_drum DL_X12_drum_0 = true := by decide +kernel
theorem lb_X12_drum : lkB yX12_drum cX12_drum 6 ((some .int)) 3 := ⟨q_1383, q_14, ⟨by decide, by decide⟩, by decide +kernel⟩
theorem lv_X12_drum : lkV yX12_drum := ⟨q_1381, q_1382⟩
def F_X12_drum_27 (s0 : Int32) (σ : hSt) : Option (Int32 × hSt) :=
some ((s0, σ))
def F_X12_drum_51 (a0 : Nat) (s0 : Nat) (s1 : Int32) (s2 : Int32) (s3 : Int32) (σ : hSt) : Option (Int32 × hSt) :=
cC (F_X12_drumsNow s0 s1 s2 s3 σ) fun v2 σ3 =>
(F_X12_keeps a0 σ3).bind fun σ5 =>
some ((v2, σ5))
def F_X12_drum (a0 : Nat) (l1 : Int32) (l2 : Int32) (l3 : Int32) (σ : hSt) : Option (Int32 × hSt) :=
cC (F_X12_mayNow a0 l1 l2 l3 σ) fun v7 σ8 =>
if (1 : Int32) ≤ v7 then (
cR (σ8.2.2 a0 54) (okr kM NM 101) fun z9 =>
cG (inb (120 : Int32) (kM z9).2) <|
(F_X12_fillsHearers a0 (σ8.1 z9 (120 : Int32).toNatClampNeg) σ8).bind fun σ12 =>
if l3 = 0 then (
F_X12_drum_51 a0 a0 l1 l2 (0 : Int32) σ12) else (
F_X12_drum_51 a0 a0 l1 l2 (1 : Int32) σ12)) else (
if v7 = 0 then (
F_X12_drum_27 (-2 : Int32) σ8) else (
F_X12_drum_27 v7 σ8))
section
variable {p : Program} {l : Launch} {e : Env} {s : State} {m : MethodId} {args : Array Value} {below : List Frame} {meth : Method} {c : Code} {D : va_G} {ay : Nat → ClassId} {ad : Nat → Nat}
set_option maxRecDepth 100000 in
set_option maxHeartbeats 4000000 in
theorem B_X12_drum_27 {H : Heap} {locs : List Loc} {ls : Array Slot} {r0 : Int32} {σ0 : hSt} (s0 : Int32) (σ : hSt) (G : Gx p m c cX12_drum 6 s args RX12 D ay NM ad (aN NM ad)) (hm : meth.sig.returnType = (some .int) ∧ meth.locks = false)  (hf : F_X12_drum_27 s0 σ = some (r0, σ0))  (w : Wd D ay kM NM ad (aN NM ad) s σ H locs) (hl : lv_has ls 6 []) : W p l e (rmK 4 102) s m args below meth c H locs 0 0 (MQ below (cI D ay kM NM ad r0 σ0) args s 0 0 (aN NM ad)) (F0 m 27 ls [.int s0]) := by
  unfold F_X12_drum_27 at hf
  have e9 := Option.some.inj hf
  exact r_iret G w hm (congrArg Prod.fst e9) (congrArg Prod.snd e9) (dcs_get dec_X12_drum_0 14 rfl)
set_option maxRecDepth 100000 in
set_option maxHeartbeats 4000000 in
theorem B_X12_drum_51 {H : Heap} {locs : List Loc} {ls : Array Slot} {r0 : Int32} {σ0 : hSt} (a0 : Nat) (s0 : Nat) (s1 : Int32) (s2 : Int32) (s3 : Int32) (σ : hSt) (G : Gx p m c cX12_drum 6 s args RX12 D ay NM ad (aN NM ad)) (hm : meth.sig.returnType = (some .int) ∧ meth.locks = false) (ok_a0 : okr kM NM 12 a0 = true) (ok_s0 : okr kM NM 12 s0 = true) (hf : F_X12_drum_51 a0 s0 s1 s2 s3 σ = some (r0, σ0))  (w : Wd D ay kM NM ad (aN NM ad) s σ H locs) (hl : lv_has ls 6 [(0, .ref (ad a0))]) : W p l e (rmK 4 102) s m args below meth c H locs 0 0 (MQ below (cI D ay kM NM ad r0 σ0) args s 0 0 (aN NM ad)) (F0 m 51 ls [.int s3, .int s2, .int s1, .ref (ad s0)]) := by
  have k_a0 := okr_in ok_a0
  have k_s0 := okr_in ok_s0
  unfold F_X12_drum_51 at hf
  obtain ⟨v2, σ3, h1, hf⟩ := cC_some hf
  refine a_i (k_V (As := [.int s1, .int s2, .int s3]) (rest := []) cls12 lb_X12_drumsNow lv_X12_drumsNow q_1404 (C_X12_drumsNow G.2.2.1 s0 s1 s2 s3 σ h1 ok_s0) ⟨(Nat.le_of_ble_eq_true rfl), (Nat.le_of_ble_eq_true rfl)⟩ G w k_s0.1 k_s0.2 rfl rfl hl.1 (Nat.le_of_ble_eq_true rfl) (dcs_get dec_X12_drum_0 29 rfl) ⟨Nat.le_refl _, Nat.le_refl _⟩) G w (fun H locs w => ?_)
  refine lv_istore (lv' := [(5, .int v2), (0, .ref (ad a0))]) G.hx G.hb (dcs_get dec_X12_drum_0 30 rfl) hl (by decide) rfl (fun ls hl => ?_)
  refine lv_aload_n G.hx G.hb (dcs_get dec_X12_drum_0 31 rfl) rfl (lv_at hl 1 rfl) ?_
  obtain ⟨σ5, h4, hf⟩ := cB_some hf
  refine a_v (k_V (As := []) (rest := []) cls12 lb_X12_keeps lv_X12_keeps q_1412 (C_X12_keeps G.2.2.1 a0 σ3 h4 ok_a0) ⟨(Nat.le_of_ble_eq_true rfl), (Nat.le_of_ble_eq_true rfl)⟩ G w k_a0.1 k_a0.2 rfl rfl hl.1 (Nat.le_of_ble_eq_true rfl) (dcs_get dec_X12_drum_0 32 rfl) ⟨Nat.le_refl _, Nat.le_refl _⟩) G w (fun H locs w => ?_)
  refine lv_iload G.hx G.hb (dcs_get dec_X12_drum_0 33 rfl) (lv_at hl 0 rfl) ?_
  have e9 := Option.some.inj hf
  exact r_iret G w hm (congrArg Prod.fst e9) (congrArg Prod.snd e9) (dcs_get dec_X12_drum_0 34 rfl)
set_option maxRecDepth 100000 in
set_option maxHeartbeats 4000000 in
theorem B_X12_drum_0 {H : Heap} {locs : List Loc} {ls : Array Slot} {r0 : Int32} {σ0 : hSt} (a0 : Nat) (l1 : Int32) (l2 : Int32) (l3 : Int32) (σ : hSt) (G : Gx p m c cX12_drum 6 s args RX12 D ay NM ad (aN NM ad)) (hm : meth.sig.returnType = (some .int) ∧ meth.locks = false) (ok_a0 : okr kM NM 12 a0 = true) (hf : F_X12_drum a0 l1 l2 l3 σ = some (r0, σ0))  (w : Wd D ay kM NM ad (aN NM ad) s σ H locs) (hl : lv_has ls 6 [(0, .ref (ad a0)), (1, .int l1), (2, .int l2), (3, .int l3)]) : W p l e (rmK 4 102) s m args below meth c H locs 0 0 (MQ below (cI D ay kM NM ad r0 σ0) args s 0 0 (aN NM ad)) (F0 m 0 ls []) := by
  have k_a0 := okr_in ok_a0
  unfold F_X12_drum at hf
  refine lv_aload_n G.hx G.hb (dcs_get dec_X12_drum_0 0 rfl) rfl (lv_at hl 0 rfl) ?_
  refine lv_iload_n G.hx G.hb (dcs_get dec_X12_drum_0 1 rfl) rfl (lv_at hl 1 rfl) ?_
  refine lv_iload_n G.hx G.hb (dcs_get dec_X12_drum_0 2 rfl) rfl (lv_at hl 2 rfl) ?_
  refine lv_iload_n G.hx G.hb (dcs_get dec_X12_drum_0 3 rfl) rfl (lv_at hl 3 rfl) ?_
  obtain ⟨v7, σ8, h6, hf⟩ := cC_some hf
  refine a_i (k_V (As := [.int l1, .int l2, .int l3]) (rest := []) cls12 lb_X12_mayNow lv_X12_mayNow q_1384 (C_X12_mayNow G.2.2.1 a0 l1 l2 l3 σ h6 ok_a0) ⟨(Nat.le_of_ble_eq_true rfl), (Nat.le_of_ble_eq_true rfl)⟩ G w k_a0.1 k_a0.2 rfl rfl hl.1 (Nat.le_of_ble_eq_true rfl) (dcs_get dec_X12_drum_0 4 rfl) ⟨Nat.le_refl _, Nat.le_refl _⟩) G w (fun H locs w => ?_)
  refine lv_istore (lv' := [(4, .int v7), (0, .ref (ad a0)), (1, .int l1), (2, .int l2), (3, .int l3)]) G.hx G.hb (dcs_get dec_X12_drum_0 5 rfl) hl (by decide) rfl (fun ls hl => ?_)
  refine lv_iload G.hx G.hb (dcs_get dec_X12_drum_0 6 rfl) (lv_at hl 0 rfl) ?_
  refine lv_iconst (v := (1 : Int32)) G.hx G.hb (dcs_get dec_X12_drum_0 7 rfl) (by decide) ?_
  refine lv_icmp_ge (tgt := 28) G.hx G.hb (dcs_get dec_X12_drum_0 8 rfl) (by decide) (fun hc => ?_) (fun hc => ?_)
  · rw [if_pos hc] at hf
    refine lv_aload_n G.hx G.hb (dcs_get dec_X12_drum_0 15 rfl) rfl (lv_at hl 1 rfl) ?_
    refine lv_aload_n G.hx G.hb (dcs_get dec_X12_drum_0 16 rfl) rfl (lv_at hl 1 rfl) ?_
    obtain ⟨z9, e_z9, ok_z9, hf⟩ := cR_some hf
    have k_z9 := okr_in ok_z9
    refine r_getr (k := 54) cls12 fi_12_54.1 fi_12_54.2 q_1062 G w k_a0.1 k_a0.2 e_z9 (dcs_get dec_X12_drum_0 17 rfl) ?_
    refine lv_bipush (v := (120 : Int32)) G.hx G.hb (dcs_get dec_X12_drum_0 18 rfl) (by decide) ?_
    obtain ⟨h10, hf⟩ := cG_some hf
    refine r_iald G w k_z9.1 k_z9.2 h10 (dcs_get dec_X12_drum_0 19 rfl) ?_
    obtain ⟨σ12, h11, hf⟩ := cB_some hf
    refine a_v (k_V (As := [.int (σ8.1 z9 (120 : Int32).toNatClampNeg)]) (rest := []) cls12 lb_X12_fillsHearers lv_X12_fillsHearers q_1400 (C_X12_fillsHearers G.2.2.1 a0 (σ8.1 z9 (120 : Int32).toNatClampNeg) σ8 h11 ok_a0) ⟨(Nat.le_of_ble_eq_true rfl), (Nat.le_of_ble_eq_true rfl)⟩ G w k_a0.1 k_a0.2 rfl rfl hl.1 (Nat.le_of_ble_eq_true rfl) (dcs_get dec_X12_drum_0 20 rfl) ⟨Nat.le_refl _, Nat.le_refl _⟩) G w (fun H locs w => ?_)
    refine lv_aload_n G.hx G.hb (dcs_get dec_X12_drum_0 21 rfl) rfl (lv_at hl 1 rfl) ?_
    refine lv_iload_n G.hx G.hb (dcs_get dec_X12_drum_0 22 rfl) rfl (lv_at hl 2 rfl) ?_
    refine lv_iload_n G.hx G.hb (dcs_get dec_X12_drum_0 23 rfl) rfl (lv_at hl 3 rfl) ?_
    refine lv_iload_n G.hx G.hb (dcs_get dec_X12_drum_0 24 rfl) rfl (lv_at hl 4 rfl) ?_
    refine lv_if_eq (tgt := 50) G.hx G.hb (dcs_get dec_X12_drum_0 25 rfl) (by decide) (fun hc => ?_) (fun hc => ?_)
    · rw [if_pos hc] at hf
      refine lv_iconst (v := (0 : Int32)) G.hx G.hb (dcs_get dec_X12_drum_0 28 rfl) (by decide) ?_
      exact B_X12_drum_51 a0 a0 l1 l2 (0 : Int32) σ12 G hm ok_a0 ok_a0 hf  w (lv_sub hl [1] rfl)
    · rw [if_neg hc] at hf
      refine lv_iconst (v := (1 : Int32)) G.hx G.hb (dcs_get dec_X12_drum_0 26 rfl) (by decide) ?_
      refine lv_goto (tgt := 51) G.hx G.hb (dcs_get dec_X12_drum_0 27 rfl) (by decide) ?_
      exact B_X12_drum_51 a0 a0 l1 l2 (1 : Int32) σ12 G hm ok_a0 ok_a0 hf  w (lv_sub hl [1] rfl)
  · rw [if_neg hc] at hf
    refine lv_iload G.hx G.hb (dcs_get dec_X12_drum_0 9 rfl) (lv_at hl 0 rfl) ?_
    refine lv_if_ne (tgt := 25) G.hx G.hb (dcs_get dec_X12_drum_0 10 rfl) (by decide) (fun hc => ?_) (fun hc => ?_)
    · rw [if_neg hc] at hf
      refine lv_iload G.hx G.hb (dcs_get dec_X12_drum_0 13 rfl) (lv_at hl 0 rfl) ?_
      exact B_X12_drum_27 v7 σ8 G hm  hf  w (lv_sub hl [] rfl)
    · rw [if_pos hc] at hf
      refine lv_bipush (v := (-2 : Int32)) G.hx G.hb (dcs_get dec_X12_drum_0 11 rfl) (by decide) ?_
      refine lv_goto (tgt := 27) G.hx G.hb (dcs_get dec_X12_drum_0 12 rfl) (by decide) ?_
      exact B_X12_drum_27 (-2 : Int32) σ8 G hm  hf  w (lv_sub hl [] rfl)
end
set_option maxRecDepth 100000 in
set_option maxHeartbeats 4000000 in
theorem C_X12_drum {l : Launch} {D : va_G} {ay : Nat → ClassId} {ad : Nat → Nat} (hi : hInj NM ad) (a0 : Nat) (l1 : Int32) (l2 : Int32) (l3 : Int32) (σ : hSt) {r0 : Int32} {σ0 : hSt} (hf : F_X12_drum a0 l1 l2 l3 σ = some (r0, σ0)) (ok_a0 : okr kM NM 12 a0 = true) : hM l D ay kM NM ad yX12_drum cX12_drum 6 ((some .int)) (rmK 4 102) [.ref (ad a0), .int l1, .int l2, .int l3] σ (cI D ay kM NM ad r0 σ0) := by
  refine hM_in (by decide) hi (Nat.le_of_ble_eq_true rfl) ?_
  intro p e s m below meth c G hm w ls hl
  exact B_X12_drum_0 a0 l1 l2 l3 σ G hm ok_a0 hf w (lv_sub hl [0, 1, 2, 3] rfl)

/-! HillDrumsModel.may(IIZ)I -/
def DL_X12_may_0 : List (Nat × Instr × Nat) := [(0, .aload_n 0, 1), (1, .iload_n 1, 1), (2, .iload_n 2, 1), (3, .iload_n 3, 1), (4, .invokevirtual 383, 3), (7, .ireturn, 1)]
set_option maxRecDepth 100000 in
theorem dec_X12_may_0 : dcs cX12_may DL_X12_may_0 = true := by decide +kernel
theorem lb_X12_may : lkB yX12_may cX12_may 4 ((some .int)) 3 := ⟨q_1419, q_14, ⟨by decide, by decide⟩, by decide +kernel⟩
theorem lv_X12_may : lkV yX12_may := ⟨q_1417, q_1418⟩
def F_X12_may (a0 : Nat) (l1 : Int32) (l2 : Int32) (l3 : Int32) (σ : hSt) : Option (Int32 × hSt) :=
cC (F_X12_mayNow a0 l1 l2 l3 σ) fun v2 σ3 =>
some ((v2, σ3))
section
variable {p : Program} {l : Launch} {e : Env} {s : State} {m : MethodId} {args : Array Value} {below : List Frame} {meth : Method} {c : Code} {D : va_G} {ay : Nat → ClassId} {ad : Nat → Nat}
set_option maxRecDepth 100000 in
set_option maxHeartbeats 4000000 in
theorem B_X12_may_0 {H : Heap} {locs : List Loc} {ls : Array Slot} {r0 : Int32} {σ0 : hSt} (a0 : Nat) (l1 : Int32) (l2 : Int32) (l3 : Int32) (σ : hSt) (G : Gx p m c cX12_may 4 s args RX12 D ay NM ad (aN NM ad)) (hm : meth.sig.returnType = (some .int) ∧ meth.locks = false) (ok_a0 : okr kM NM 12 a0 = true) (hf : F_X12_may a0 l1 l2 l3 σ = some (r0, σ0))  (w : Wd D ay kM NM ad (aN NM ad) s σ H locs) (hl : lv_has ls 4 [(0, .ref (ad a0)), (1, .int l1), (2, .int l2), (3, .int l3)]) : W p l e (rmK 3 66) s m args below meth c H locs 0 0 (MQ below (cI D ay kM NM ad r0 σ0) args s 0 0 (aN NM ad)) (F0 m 0 ls []) := by
  have k_a0 := okr_in ok_a0
  unfold F_X12_may at hf
  refine lv_aload_n G.hx G.hb (dcs_get dec_X12_may_0 0 rfl) rfl (lv_at hl 0 rfl) ?_
  refine lv_iload_n G.hx G.hb (dcs_get dec_X12_may_0 1 rfl) rfl (lv_at hl 1 rfl) ?_
  refine lv_iload_n G.hx G.hb (dcs_get dec_X12_may_0 2 rfl) rfl (lv_at hl 2 rfl) ?_
  refine lv_iload_n G.hx G.hb (dcs_get dec_X12_may_0 3 rfl) rfl (lv_at hl 3 rfl) ?_
  obtain ⟨v2, σ3, h1, hf⟩ := cC_some hf
  refine a_i (k_V (As := [.int l1, .int l2, .int l3]) (rest := []) cls12 lb_X12_mayNow lv_X12_mayNow q_1384 (C_X12_mayNow G.2.2.1 a0 l1 l2 l3 σ h1 ok_a0) ⟨(Nat.le_of_ble_eq_true rfl), (Nat.le_of_ble_eq_true rfl)⟩ G w k_a0.1 k_a0.2 rfl rfl hl.1 (Nat.le_of_ble_eq_true rfl) (dcs_get dec_X12_may_0 4 rfl) ⟨Nat.le_refl _, Nat.le_refl _⟩) G w (fun H locs w => ?_)
  have e9 := Option.some.inj hf
  exact r_iret G w hm (congrArg Prod.fst e9) (congrArg Prod.snd e9) (dcs_get dec_X12_may_0 5 rfl)
end
set_option maxRecDepth 100000 in
set_option maxHeartbeats 4000000 in
theorem C_X12_may {l : Launch} {D : va_G} {ay : Nat → ClassId} {ad : Nat → Nat} (hi : hInj NM ad) (a0 : Nat) (l1 : Int32) (l2 : Int32) (l3 : Int32) (σ : hSt) {r0 : Int32} {σ0 : hSt} (hf : F_X12_may a0 l1 l2 l3 σ = some (r0, σ0)) (ok_a0 : okr kM NM 12 a0 = true) : hM l D ay kM NM ad yX12_may cX12_may 4 ((some .int)) (rmK 3 66) [.ref (ad a0), .int l1, .int l2, .int l3] σ (cI D ay kM NM ad r0 σ0) := by
  refine hM_in (by decide) hi (Nat.le_of_ble_eq_true rfl) ?_
  intro p e s m below meth c G hm w ls hl
  exact B_X12_may_0 a0 l1 l2 l3 σ G hm ok_a0 hf w (lv_sub hl [0, 1, 2, 3] rfl)

/-! HillDrumsModel.drummed(II)I -/
def DL_X12_drummed_0 : List (Nat × Instr × Nat) := [(0, .iload_n 1, 1), (1, .iconst 0, 1), (2, .aload_n 0, 1), (3, .getfield 125, 3), (6, .bipush 121, 2), (8, .iaload, 1), (9, .iconst 1, 1), (10, .isub, 1), (11, .invokestatic 323, 3), (14, .ifCond .eq 29, 3), (17, .iload_n 2, 1), (18, .iconst 0, 1), (19, .iconst 3, 1), (20, .invokestatic 323, 3), (23, .ifCond .eq 20, 3), (26, .aload_n 0, 1), (27, .getfield 125, 3), (30, .sipush 130, 3), (33, .iconst 4, 1), (34, .iload_n 1, 1), (35, .imul, 1), (36, .iadd, 1), (37, .iload_n 2, 1), (38, .iadd, 1), (39, .iaload, 1), (40, .goto 4, 3), (43, .iconst (-1), 1), (44, .ireturn, 1)]
set_option maxRecDepth 100000 in
theorem dec_X12_drummed_0 : dcs cX12_drummed DL_X12_drummed_0 = true := by decide +kernel
theorem lb_X12_drummed : lkB yX12_drummed cX12_drummed 3 ((some .int)) 2 := ⟨q_1423, q_14, ⟨by decide, by decide⟩, by decide +kernel⟩
theorem lv_X12_drummed : lkV yX12_drummed := ⟨q_1421, q_1422⟩
def F_X12_drummed_44 (s0 : Int32) (σ : hSt) : Option (Int32) :=
some (s0)
def F_X12_drummed_43  (σ : hSt) : Option (Int32) :=
F_X12_drummed_44 (-1 : Int32) σ
def F_X12_drummed (a0 : Nat) (l1 : Int32) (l2 : Int32) (σ : hSt) : Option (Int32) :=
cR (σ.2.2 a0 53) (okr kM NM 101) fun z1 =>
cG (inb (121 : Int32) (kM z1).2) <|
(F_X12_in l1 (0 : Int32) ((σ.1 z1 (121 : Int32).toNatClampNeg) - (1 : Int32)) σ).bind fun v4 =>
if v4 = 0 then (
F_X12_drummed_43  σ) else (
(F_X12_in l2 (0 : Int32) (3 : Int32) σ).bind fun v6 =>
if v6 = 0 then (
F_X12_drummed_43  σ) else (
cR (σ.2.2 a0 53) (okr kM NM 101) fun z7 =>
cG (inb (((130 : Int32) + ((4 : Int32) * l1)) + l2) (kM z7).2) <|
F_X12_drummed_44 (σ.1 z7 (((130 : Int32) + ((4 : Int32) * l1)) + l2).toNatClampNeg) σ))
section
variable {p : Program} {l : Launch} {e : Env} {s : State} {m : MethodId} {args : Array Value} {below : List Frame} {meth : Method} {c : Code} {D : va_G} {ay : Nat → ClassId} {ad : Nat → Nat}
set_option maxRecDepth 100000 in
set_option maxHeartbeats 4000000 in
theorem B_X12_drummed_44 {H : Heap} {locs : List Loc} {ls : Array Slot} {r0 : Int32} (s0 : Int32) (σ : hSt) (G : Gx p m c cX12_drummed 3 s args RX12 D ay NM ad (aN NM ad)) (hm : meth.sig.returnType = (some .int) ∧ meth.locks = false)  (hf : F_X12_drummed_44 s0 σ = some r0)  (w : Wd D ay kM NM ad (aN NM ad) s σ H locs) (hl : lv_has ls 3 []) : W p l e (rmK 1 22) s m args below meth c H locs 0 0 (MQ below (cI D ay kM NM ad r0 σ) args s 0 0 (aN NM ad)) (F0 m 44 ls [.int s0]) := by
  unfold F_X12_drummed_44 at hf
  have e9 := Option.some.inj hf
  exact r_iret G w hm e9 rfl (dcs_get dec_X12_drummed_0 27 rfl)
set_option maxRecDepth 100000 in
set_option maxHeartbeats 4000000 in
theorem B_X12_drummed_43 {H : Heap} {locs : List Loc} {ls : Array Slot} {r0 : Int32}  (σ : hSt) (G : Gx p m c cX12_drummed 3 s args RX12 D ay NM ad (aN NM ad)) (hm : meth.sig.returnType = (some .int) ∧ meth.locks = false)  (hf : F_X12_drummed_43  σ = some r0)  (w : Wd D ay kM NM ad (aN NM ad) s σ H locs) (hl : lv_has ls 3 []) : W p l e (rmK 1 22) s m args below meth c H locs 0 0 (MQ below (cI D ay kM NM ad r0 σ) args s 0 0 (aN NM ad)) (F0 m 43 ls []) := by
  unfold F_X12_drummed_43 at hf
  refine lv_iconst (v := (-1 : Int32)) G.hx G.hb (dcs_get dec_X12_drummed_0 26 rfl) (by decide) ?_
  exact B_X12_drummed_44 (-1 : Int32) σ G hm  hf  w (lv_sub hl [] rfl)
set_option maxRecDepth 100000 in
set_option maxHeartbeats 4000000 in
theorem B_X12_drummed_0 {H : Heap} {locs : List Loc} {ls : Array Slot} {r0 : Int32} (a0 : Nat) (l1 : Int32) (l2 : Int32) (σ : hSt) (G : Gx p m c cX12_drummed 3 s args RX12 D ay NM ad (aN NM ad)) (hm : meth.sig.returnType = (some .int) ∧ meth.locks = false) (ok_a0 : okr kM NM 12 a0 = true) (hf : F_X12_drummed a0 l1 l2 σ = some r0)  (w : Wd D ay kM NM ad (aN NM ad) s σ H locs) (hl : lv_has ls 3 [(0, .ref (ad a0)), (1, .int l1), (2, .int l2)]) : W p l e (rmK 1 22) s m args below meth c H locs 0 0 (MQ below (cI D ay kM NM ad r0 σ) args s 0 0 (aN NM ad)) (F0 m 0 ls []) := by
  have k_a0 := okr_in ok_a0
  unfold F_X12_drummed at hf
  refine lv_iload_n G.hx G.hb (dcs_get dec_X12_drummed_0 0 rfl) rfl (lv_at hl 1 rfl) ?_
  refine lv_iconst (v := (0 : Int32)) G.hx G.hb (dcs_get dec_X12_drummed_0 1 rfl) (by decide) ?_
  refine lv_aload_n G.hx G.hb (dcs_get dec_X12_drummed_0 2 rfl) rfl (lv_at hl 0 rfl) ?_
  obtain ⟨z1, e_z1, ok_z1, hf⟩ := cR_some hf
  have k_z1 := okr_in ok_z1
  refine r_getr (k := 53) cls12 fi_12_53.1 fi_12_53.2 q_1061 G w k_a0.1 k_a0.2 e_z1 (dcs_get dec_X12_drummed_0 3 rfl) ?_
  refine lv_bipush (v := (121 : Int32)) G.hx G.hb (dcs_get dec_X12_drummed_0 4 rfl) (by decide) ?_
  obtain ⟨h2, hf⟩ := cG_some hf
  refine r_iald G w k_z1.1 k_z1.2 h2 (dcs_get dec_X12_drummed_0 5 rfl) ?_
  refine lv_iconst (v := (1 : Int32)) G.hx G.hb (dcs_get dec_X12_drummed_0 6 rfl) (by decide) ?_
  refine lv_isub G.hx G.hb (dcs_get dec_X12_drummed_0 7 rfl) ?_
  obtain ⟨v4, h3, hf⟩ := cB_some hf
  refine a_i (k_S (As := [.int l1, .int (0 : Int32), .int ((σ.1 z1 (121 : Int32).toNatClampNeg) - (1 : Int32))]) (rest := []) lb_X12_in q_1351 q_1350 (C_X12_in G.2.2.1 l1 (0 : Int32) ((σ.1 z1 (121 : Int32).toNatClampNeg) - (1 : Int32)) σ h3 ) ⟨(Nat.le_of_ble_eq_true rfl), (Nat.le_of_ble_eq_true rfl)⟩ G w rfl rfl hl.1 (Nat.le_of_ble_eq_true rfl) (dcs_get dec_X12_drummed_0 8 rfl) ⟨Nat.le_refl _, Nat.le_refl _⟩) G w (fun H locs w => ?_)
  refine lv_if_eq (tgt := 43) G.hx G.hb (dcs_get dec_X12_drummed_0 9 rfl) (by decide) (fun hc => ?_) (fun hc => ?_)
  · rw [if_pos hc] at hf
    exact B_X12_drummed_43  σ G hm  hf  w (lv_sub hl [] rfl)
  · rw [if_neg hc] at hf
    refine lv_iload_n G.hx G.hb (dcs_get dec_X12_drummed_0 10 rfl) rfl (lv_at hl 2 rfl) ?_
    refine lv_iconst (v := (0 : Int32)) G.hx G.hb (dcs_get dec_X12_drummed_0 11 rfl) (by decide) ?_
    refine lv_iconst (v := (3 : Int32)) G.hx G.hb (dcs_get dec_X12_drummed_0 12 rfl) (by decide) ?_
    obtain ⟨v6, h5, hf⟩ := cB_some hf
    refine a_i (k_S (As := [.int l2, .int (0 : Int32), .int (3 : Int32)]) (rest := []) lb_X12_in q_1351 q_1350 (C_X12_in G.2.2.1 l2 (0 : Int32) (3 : Int32) σ h5 ) ⟨(Nat.le_of_ble_eq_true rfl), (Nat.le_of_ble_eq_true rfl)⟩ G w rfl rfl hl.1 (Nat.le_of_ble_eq_true rfl) (dcs_get dec_X12_drummed_0 13 rfl) ⟨Nat.le_refl _, Nat.le_refl _⟩) G w (fun H locs w => ?_)
    refine lv_if_eq (tgt := 43) G.hx G.hb (dcs_get dec_X12_drummed_0 14 rfl) (by decide) (fun hc => ?_) (fun hc => ?_)
    · rw [if_pos hc] at hf
      exact B_X12_drummed_43  σ G hm  hf  w (lv_sub hl [] rfl)
    · rw [if_neg hc] at hf
      refine lv_aload_n G.hx G.hb (dcs_get dec_X12_drummed_0 15 rfl) rfl (lv_at hl 0 rfl) ?_
      obtain ⟨z7, e_z7, ok_z7, hf⟩ := cR_some hf
      have k_z7 := okr_in ok_z7
      refine r_getr (k := 53) cls12 fi_12_53.1 fi_12_53.2 q_1061 G w k_a0.1 k_a0.2 e_z7 (dcs_get dec_X12_drummed_0 16 rfl) ?_
      refine lv_sipush (v := (130 : Int32)) G.hx G.hb (dcs_get dec_X12_drummed_0 17 rfl) (by decide) ?_
      refine lv_iconst (v := (4 : Int32)) G.hx G.hb (dcs_get dec_X12_drummed_0 18 rfl) (by decide) ?_
      refine lv_iload_n G.hx G.hb (dcs_get dec_X12_drummed_0 19 rfl) rfl (lv_at hl 1 rfl) ?_
      refine lv_imul G.hx G.hb (dcs_get dec_X12_drummed_0 20 rfl) ?_
      refine lv_iadd G.hx G.hb (dcs_get dec_X12_drummed_0 21 rfl) ?_
      refine lv_iload_n G.hx G.hb (dcs_get dec_X12_drummed_0 22 rfl) rfl (lv_at hl 2 rfl) ?_
      refine lv_iadd G.hx G.hb (dcs_get dec_X12_drummed_0 23 rfl) ?_
      obtain ⟨h8, hf⟩ := cG_some hf
      refine r_iald G w k_z7.1 k_z7.2 h8 (dcs_get dec_X12_drummed_0 24 rfl) ?_
      refine lv_goto (tgt := 44) G.hx G.hb (dcs_get dec_X12_drummed_0 25 rfl) (by decide) ?_
      exact B_X12_drummed_44 (σ.1 z7 (((130 : Int32) + ((4 : Int32) * l1)) + l2).toNatClampNeg) σ G hm  hf  w (lv_sub hl [] rfl)
end
set_option maxRecDepth 100000 in
set_option maxHeartbeats 4000000 in
theorem C_X12_drummed {l : Launch} {D : va_G} {ay : Nat → ClassId} {ad : Nat → Nat} (hi : hInj NM ad) (a0 : Nat) (l1 : Int32) (l2 : Int32) (σ : hSt) {r0 : Int32} (hf : F_X12_drummed a0 l1 l2 σ = some r0) (ok_a0 : okr kM NM 12 a0 = true) : hM l D ay kM NM ad yX12_drummed cX12_drummed 3 ((some .int)) (rmK 1 22) [.ref (ad a0), .int l1, .int l2] σ (cI D ay kM NM ad r0 σ) := by
  refine hM_in (by decide) hi (Nat.le_of_ble_eq_true rfl) ?_
  intro p e s m below meth c G hm w ls hl
  exact B_X12_drummed_0 a0 l1 l2 σ G hm ok_a0 hf w (lv_sub hl [0, 1, 2] rfl)

/-! HillDrumsModel.night()I -/
def DL_X12_night_0 : List (Nat × Instr × Nat) := [(0, .aload_n 0, 1), (1, .invokevirtual 380, 3), (4, .aload_n 0, 1), (5, .invokevirtual 374, 3), (8, .aload_n 0, 1), (9, .invokevirtual 387, 3), (12, .aload_n 0, 1), (13, .getfield 125, 3), (16, .bipush 120, 2), (18, .iaload, 1), (19, .ireturn, 1)]
set_option maxRecDepth 100000 in
theorem dec_X12_night_0 : dcs cX12_night DL_X12_night_0 = true := by decide +kernel
theorem lb_X12_night : lkB yX12_night cX12_night 1 ((some .int)) 0 := ⟨q_1427, q_14, ⟨by decide, by decide⟩, by decide +kernel⟩
theorem lv_X12_night : lkV yX12_night := ⟨q_1425, q_1426⟩
def F_X12_night (a0 : Nat) (σ : hSt) : Option (Int32 × hSt) :=
(F_X12_copies a0 σ).bind fun σ2 =>
(F_X12_nightGoes a0 σ2).bind fun σ4 =>
(F_X12_keeps a0 σ4).bind fun σ6 =>
cR (σ6.2.2 a0 53) (okr kM NM 101) fun z7 =>
cG (inb (120 : Int32) (kM z7).2) <|
some ((σ6.1 z7 (120 : Int32).toNatClampNeg, σ6))
section
variable {p : Program} {l : Launch} {e : Env} {s : State} {m : MethodId} {args : Array Value} {below : List Frame} {meth : Method} {c : Code} {D : va_G} {ay : Nat → ClassId} {ad : Nat → Nat}
set_option maxRecDepth 100000 in
set_option maxHeartbeats 4000000 in
theorem B_X12_night_0 {H : Heap} {locs : List Loc} {ls : Array Slot} {r0 : Int32} {σ0 : hSt} (a0 : Nat) (σ : hSt) (G : Gx p m c cX12_night 1 s args RX12 D ay NM ad (aN NM ad)) (hm : meth.sig.returnType = (some .int) ∧ meth.locks = false) (ok_a0 : okr kM NM 12 a0 = true) (hf : F_X12_night a0 σ = some (r0, σ0))  (w : Wd D ay kM NM ad (aN NM ad) s σ H locs) (hl : lv_has ls 1 [(0, .ref (ad a0))]) : W p l e (rmK 5 125) s m args below meth c H locs 0 0 (MQ below (cI D ay kM NM ad r0 σ0) args s 0 0 (aN NM ad)) (F0 m 0 ls []) := by
  have k_a0 := okr_in ok_a0
  unfold F_X12_night at hf
  refine lv_aload_n G.hx G.hb (dcs_get dec_X12_night_0 0 rfl) rfl (lv_at hl 0 rfl) ?_
  obtain ⟨σ2, h1, hf⟩ := cB_some hf
  refine a_v (k_V (As := []) (rest := []) cls12 lb_X12_copies lv_X12_copies q_1388 (C_X12_copies G.2.2.1 a0 σ h1 ok_a0) ⟨(Nat.le_of_ble_eq_true rfl), (Nat.le_of_ble_eq_true rfl)⟩ G w k_a0.1 k_a0.2 rfl rfl hl.1 (Nat.le_of_ble_eq_true rfl) (dcs_get dec_X12_night_0 1 rfl) ⟨Nat.le_refl _, Nat.le_refl _⟩) G w (fun H locs w => ?_)
  refine lv_aload_n G.hx G.hb (dcs_get dec_X12_night_0 2 rfl) rfl (lv_at hl 0 rfl) ?_
  obtain ⟨σ4, h3, hf⟩ := cB_some hf
  refine a_v (k_V (As := []) (rest := []) cls12 lb_X12_nightGoes lv_X12_nightGoes q_1428 (C_X12_nightGoes G.2.2.1 a0 σ2 h3 ok_a0) ⟨(Nat.le_of_ble_eq_true rfl), (Nat.le_of_ble_eq_true rfl)⟩ G w k_a0.1 k_a0.2 rfl rfl hl.1 (Nat.le_of_ble_eq_true rfl) (dcs_get dec_X12_night_0 3 rfl) ⟨Nat.le_refl _, Nat.le_refl _⟩) G w (fun H locs w => ?_)
  refine lv_aload_n G.hx G.hb (dcs_get dec_X12_night_0 4 rfl) rfl (lv_at hl 0 rfl) ?_
  obtain ⟨σ6, h5, hf⟩ := cB_some hf
  refine a_v (k_V (As := []) (rest := []) cls12 lb_X12_keeps lv_X12_keeps q_1412 (C_X12_keeps G.2.2.1 a0 σ4 h5 ok_a0) ⟨(Nat.le_of_ble_eq_true rfl), (Nat.le_of_ble_eq_true rfl)⟩ G w k_a0.1 k_a0.2 rfl rfl hl.1 (Nat.le_of_ble_eq_true rfl) (dcs_get dec_X12_night_0 5 rfl) ⟨Nat.le_refl _, Nat.le_refl _⟩) G w (fun H locs w => ?_)
  refine lv_aload_n G.hx G.hb (dcs_get dec_X12_night_0 6 rfl) rfl (lv_at hl 0 rfl) ?_
  obtain ⟨z7, e_z7, ok_z7, hf⟩ := cR_some hf
  have k_z7 := okr_in ok_z7
  refine r_getr (k := 53) cls12 fi_12_53.1 fi_12_53.2 q_1061 G w k_a0.1 k_a0.2 e_z7 (dcs_get dec_X12_night_0 7 rfl) ?_
  refine lv_bipush (v := (120 : Int32)) G.hx G.hb (dcs_get dec_X12_night_0 8 rfl) (by decide) ?_
  obtain ⟨h8, hf⟩ := cG_some hf
  refine r_iald G w k_z7.1 k_z7.2 h8 (dcs_get dec_X12_night_0 9 rfl) ?_
  have e9 := Option.some.inj hf
  exact r_iret G w hm (congrArg Prod.fst e9) (congrArg Prod.snd e9) (dcs_get dec_X12_night_0 10 rfl)
end
set_option maxRecDepth 100000 in
set_option maxHeartbeats 4000000 in
theorem C_X12_night {l : Launch} {D : va_G} {ay : Nat → ClassId} {ad : Nat → Nat} (hi : hInj NM ad) (a0 : Nat) (σ : hSt) {r0 : Int32} {σ0 : hSt} (hf : F_X12_night a0 σ = some (r0, σ0)) (ok_a0 : okr kM NM 12 a0 = true) : hM l D ay kM NM ad yX12_night cX12_night 1 ((some .int)) (rmK 5 125) [.ref (ad a0)] σ (cI D ay kM NM ad r0 σ0) := by
  refine hM_in (by decide) hi (Nat.le_of_ble_eq_true rfl) ?_
  intro p e s m below meth c G hm w ls hl
  exact B_X12_night_0 a0 σ G hm ok_a0 hf w (lv_sub hl [0] rfl)

/-! HillDrumsModel.run(I)I -/
def DL_X12_run_0 : List (Nat × Instr × Nat) := [(0, .iload_n 1, 1), (1, .iconst 0, 1), (2, .bipush 100, 2), (4, .invokestatic 323, 3), (7, .ifCond .ne 5, 3), (10, .iconst (-1), 1), (11, .ireturn, 1), (12, .iload_n 1, 1), (13, .ifCond .ne 11, 3), (16, .aload_n 0, 1), (17, .getfield 125, 3), (20, .bipush 120, 2), (22, .iaload, 1), (23, .ireturn, 1), (24, .aload_n 0, 1), (25, .invokevirtual 380, 3), (28, .iconst 0, 1), (29, .istore_n 2, 1), (30, .iload_n 2, 1), (31, .iload_n 1, 1), (32, .if_icmp .ge 13, 3), (35, .aload_n 0, 1), (36, .invokevirtual 390, 3), (39, .iinc 2 1, 3), (42, .goto (-12), 3), (45, .aload_n 0, 1), (46, .invokevirtual 387, 3), (49, .aload_n 0, 1), (50, .getfield 125, 3), (53, .bipush 120, 2), (55, .iaload, 1), (56, .ireturn, 1)]
set_option maxRecDepth 100000 in
theorem dec_X12_run_0 : dcs cX12_run DL_X12_run_0 = true := by decide +kernel
theorem lb_X12_run : lkB yX12_run cX12_run 3 ((some .int)) 1 := ⟨q_1435, q_14, ⟨by decide, by decide⟩, by decide +kernel⟩
theorem lv_X12_run : lkV yX12_run := ⟨q_1433, q_1434⟩
def F_X12_run_30b (a0 : Nat) (l1 : Int32) (l2 : Int32) (σ : hSt) : Option ((Int32 × hSt) ⊕ (Int32 × hSt)) :=
if l1 ≤ l2 then (
(F_X12_keeps a0 σ).bind fun σ2 =>
cR (σ2.2.2 a0 53) (okr kM NM 101) fun z3 =>
cG (inb (120 : Int32) (kM z3).2) <|
some (.inr ((σ2.1 z3 (120 : Int32).toNatClampNeg, σ2)))) else (
(F_X12_dayByRule a0 σ).bind fun σ6 =>
cL (l2 + (1 : Int32)) fun v7 =>
some (.inl (v7, σ6)))
def S_X12_run_30 (a0 : Nat) (l1 : Int32) (v : Int32 × hSt) : Option ((Int32 × hSt) ⊕ (Int32 × hSt)) := F_X12_run_30b a0 l1 v.1 v.2
def F_X12_run_30 (a0 : Nat) (l1 : Int32) (l2 : Int32) (σ : hSt) : Option (Int32 × hSt) := lp (S_X12_run_30 a0 l1) fuel (l2, σ)
def F_X12_run (a0 : Nat) (l1 : Int32) (σ : hSt) : Option (Int32 × hSt) :=
(F_X12_in l1 (0 : Int32) (100 : Int32) σ).bind fun v9 =>
if v9 = 0 then (
some (((-1 : Int32), σ))) else (
if l1 = 0 then (
cR (σ.2.2 a0 53) (okr kM NM 101) fun z12 =>
cG (inb (120 : Int32) (kM z12).2) <|
some ((σ.1 z12 (120 : Int32).toNatClampNeg, σ))) else (
(F_X12_copies a0 σ).bind fun σ11 =>
F_X12_run_30 a0 l1 (0 : Int32) σ11))
section
variable {p : Program} {l : Launch} {e : Env} {s : State} {m : MethodId} {args : Array Value} {below : List Frame} {meth : Method} {c : Code} {D : va_G} {ay : Nat → ClassId} {ad : Nat → Nat}
set_option maxRecDepth 100000 in
set_option maxHeartbeats 4000000 in
theorem B_X12_run_30b {H : Heap} {locs : List Loc} {ls : Array Slot} {r0 : Int32} {σ0 : hSt} {o : (Int32 × hSt) ⊕ (Int32 × hSt)} (a0 : Nat) (l1 : Int32) (l2 : Int32) (σ : hSt) (G : Gx p m c cX12_run 3 s args RX12 D ay NM ad (aN NM ad)) (hm : meth.sig.returnType = (some .int) ∧ meth.locks = false) (ok_a0 : okr kM NM 12 a0 = true) (hf : F_X12_run_30b a0 l1 l2 σ = some o) (hb0 : ∀ (v : Int32 × hSt), o = .inl v → ∀ (H : Heap) (locs : List Loc) (ls : Array Slot), Wd D ay kM NM ad (aN NM ad) s v.2 H locs → lv_has ls 3 [(0, .ref (ad a0)), (1, .int l1), (2, .int v.1)] → W p l e (rmK 6 147) s m args below meth c H locs 0 0 (MQ below (cI D ay kM NM ad r0 σ0) args s 0 0 (aN NM ad)) (F0 m 30 ls [])) (hr : ∀ x, o = .inr (x) → x = (r0, σ0)) (w : Wd D ay kM NM ad (aN NM ad) s σ H locs) (hl : lv_has ls 3 [(0, .ref (ad a0)), (1, .int l1), (2, .int l2)]) : W p l e (rmK 6 147) s m args below meth c H locs 0 0 (MQ below (cI D ay kM NM ad r0 σ0) args s 0 0 (aN NM ad)) (F0 m 30 ls []) := by
  have k_a0 := okr_in ok_a0
  unfold F_X12_run_30b at hf
  refine lv_iload_n G.hx G.hb (dcs_get dec_X12_run_0 18 rfl) rfl (lv_at hl 2 rfl) ?_
  refine lv_iload_n G.hx G.hb (dcs_get dec_X12_run_0 19 rfl) rfl (lv_at hl 1 rfl) ?_
  refine lv_icmp_ge (tgt := 45) G.hx G.hb (dcs_get dec_X12_run_0 20 rfl) (by decide) (fun hc => ?_) (fun hc => ?_)
  · rw [if_pos hc] at hf
    refine lv_aload_n G.hx G.hb (dcs_get dec_X12_run_0 25 rfl) rfl (lv_at hl 0 rfl) ?_
    obtain ⟨σ2, h1, hf⟩ := cB_some hf
    refine a_v (k_V (As := []) (rest := []) cls12 lb_X12_keeps lv_X12_keeps q_1412 (C_X12_keeps G.2.2.1 a0 σ h1 ok_a0) ⟨(Nat.le_of_ble_eq_true rfl), (Nat.le_of_ble_eq_true rfl)⟩ G w k_a0.1 k_a0.2 rfl rfl hl.1 (Nat.le_of_ble_eq_true rfl) (dcs_get dec_X12_run_0 26 rfl) ⟨Nat.le_refl _, Nat.le_refl _⟩) G w (fun H locs w => ?_)
    refine lv_aload_n G.hx G.hb (dcs_get dec_X12_run_0 27 rfl) rfl (lv_at hl 0 rfl) ?_
    obtain ⟨z3, e_z3, ok_z3, hf⟩ := cR_some hf
    have k_z3 := okr_in ok_z3
    refine r_getr (k := 53) cls12 fi_12_53.1 fi_12_53.2 q_1061 G w k_a0.1 k_a0.2 e_z3 (dcs_get dec_X12_run_0 28 rfl) ?_
    refine lv_bipush (v := (120 : Int32)) G.hx G.hb (dcs_get dec_X12_run_0 29 rfl) (by decide) ?_
    obtain ⟨h4, hf⟩ := cG_some hf
    refine r_iald G w k_z3.1 k_z3.2 h4 (dcs_get dec_X12_run_0 30 rfl) ?_
    have e9 := hr _ (Option.some.inj hf).symm
    exact r_iret G w hm (congrArg Prod.fst e9) (congrArg Prod.snd e9) (dcs_get dec_X12_run_0 31 rfl)
  · rw [if_neg hc] at hf
    refine lv_aload_n G.hx G.hb (dcs_get dec_X12_run_0 21 rfl) rfl (lv_at hl 0 rfl) ?_
    obtain ⟨σ6, h5, hf⟩ := cB_some hf
    refine a_v (k_V (As := []) (rest := []) cls12 lb_X12_dayByRule lv_X12_dayByRule q_1436 (C_X12_dayByRule G.2.2.1 a0 σ h5 ok_a0) ⟨(Nat.le_of_ble_eq_true rfl), (Nat.le_of_ble_eq_true rfl)⟩ G w k_a0.1 k_a0.2 rfl rfl hl.1 (Nat.le_of_ble_eq_true rfl) (dcs_get dec_X12_run_0 22 rfl) ⟨Nat.le_refl _, Nat.le_refl _⟩) G w (fun H locs w => ?_)
    obtain ⟨v7, e_v7, hf⟩ := cL_some hf
    refine lv_iinc (v := v7) (lv' := [(2, .int v7), (0, .ref (ad a0)), (1, .int l1)]) G.hx G.hb (dcs_get dec_X12_run_0 23 rfl) hl (k := 2) rfl (by rw [e_v7]; rfl) (by decide) rfl (fun ls hl => ?_)
    refine lv_goto (tgt := 30) G.hx G.hb (dcs_get dec_X12_run_0 24 rfl) (by decide) ?_
    exact hb0 _ (Option.some.inj hf).symm _ _ _ w (lv_sub hl [1, 2, 0] rfl)
set_option maxRecDepth 100000 in
set_option maxHeartbeats 4000000 in
theorem H_X12_run_30 {r0 : Int32} {σ0 : hSt} (a0 : Nat) (l1 : Int32) (G : Gx p m c cX12_run 3 s args RX12 D ay NM ad (aN NM ad)) (hm : meth.sig.returnType = (some .int) ∧ meth.locks = false) (ok_a0 : okr kM NM 12 a0 = true)  : ∀ (k : Nat) (v : Int32 × hSt), lp (S_X12_run_30 a0 l1) k v = some (r0, σ0) → ∀ (H : Heap) (locs : List Loc) (ls : Array Slot), Wd D ay kM NM ad (aN NM ad) s v.2 H locs → lv_has ls 3 [(0, .ref (ad a0)), (1, .int l1), (2, .int v.1)] → W p l e (rmK 6 147) s m args below meth c H locs 0 0 (MQ below (cI D ay kM NM ad r0 σ0) args s 0 0 (aN NM ad)) (F0 m 30 ls []) := by
  intro k
  induction k with
  | zero => intro v hf; cases hf
  | succ k ih =>
    intro v hf H locs ls w hl
    obtain ⟨o1, h1, h2, h3⟩ := lp_some hf
    exact B_X12_run_30b a0 l1 v.1 v.2 G hm ok_a0 h1  (fun v' e => ih v' (h2 v' e)) (fun x e => h3 x e) w hl
set_option maxRecDepth 100000 in
set_option maxHeartbeats 4000000 in
theorem B_X12_run_30 {H : Heap} {locs : List Loc} {ls : Array Slot} {r0 : Int32} {σ0 : hSt} (a0 : Nat) (l1 : Int32) (l2 : Int32) (σ : hSt) (G : Gx p m c cX12_run 3 s args RX12 D ay NM ad (aN NM ad)) (hm : meth.sig.returnType = (some .int) ∧ meth.locks = false) (ok_a0 : okr kM NM 12 a0 = true) (hf : F_X12_run_30 a0 l1 l2 σ = some (r0, σ0))  (w : Wd D ay kM NM ad (aN NM ad) s σ H locs) (hl : lv_has ls 3 [(0, .ref (ad a0)), (1, .int l1), (2, .int l2)]) : W p l e (rmK 6 147) s m args below meth c H locs 0 0 (MQ below (cI D ay kM NM ad r0 σ0) args s 0 0 (aN NM ad)) (F0 m 30 ls []) := by
  unfold F_X12_run_30 at hf
  exact H_X12_run_30 a0 l1  G hm ok_a0  fuel (l2, σ) hf _ _ _ w hl
set_option maxRecDepth 100000 in
set_option maxHeartbeats 4000000 in
theorem B_X12_run_0 {H : Heap} {locs : List Loc} {ls : Array Slot} {r0 : Int32} {σ0 : hSt} (a0 : Nat) (l1 : Int32) (σ : hSt) (G : Gx p m c cX12_run 3 s args RX12 D ay NM ad (aN NM ad)) (hm : meth.sig.returnType = (some .int) ∧ meth.locks = false) (ok_a0 : okr kM NM 12 a0 = true) (hf : F_X12_run a0 l1 σ = some (r0, σ0))  (w : Wd D ay kM NM ad (aN NM ad) s σ H locs) (hl : lv_has ls 3 [(0, .ref (ad a0)), (1, .int l1)]) : W p l e (rmK 6 147) s m args below meth c H locs 0 0 (MQ below (cI D ay kM NM ad r0 σ0) args s 0 0 (aN NM ad)) (F0 m 0 ls []) := by
  have k_a0 := okr_in ok_a0
  unfold F_X12_run at hf
  refine lv_iload_n G.hx G.hb (dcs_get dec_X12_run_0 0 rfl) rfl (lv_at hl 1 rfl) ?_
  refine lv_iconst (v := (0 : Int32)) G.hx G.hb (dcs_get dec_X12_run_0 1 rfl) (by decide) ?_
  refine lv_bipush (v := (100 : Int32)) G.hx G.hb (dcs_get dec_X12_run_0 2 rfl) (by decide) ?_
  obtain ⟨v9, h8, hf⟩ := cB_some hf
  refine a_i (k_S (As := [.int l1, .int (0 : Int32), .int (100 : Int32)]) (rest := []) lb_X12_in q_1351 q_1350 (C_X12_in G.2.2.1 l1 (0 : Int32) (100 : Int32) σ h8 ) ⟨(Nat.le_of_ble_eq_true rfl), (Nat.le_of_ble_eq_true rfl)⟩ G w rfl rfl hl.1 (Nat.le_of_ble_eq_true rfl) (dcs_get dec_X12_run_0 3 rfl) ⟨Nat.le_refl _, Nat.le_refl _⟩) G w (fun H locs w => ?_)
  refine lv_if_ne (tgt := 12) G.hx G.hb (dcs_get dec_X12_run_0 4 rfl) (by decide) (fun hc => ?_) (fun hc => ?_)
  · rw [if_neg hc] at hf
    refine lv_iload_n G.hx G.hb (dcs_get dec_X12_run_0 7 rfl) rfl (lv_at hl 1 rfl) ?_
    refine lv_if_ne (tgt := 24) G.hx G.hb (dcs_get dec_X12_run_0 8 rfl) (by decide) (fun hc => ?_) (fun hc => ?_)
    · rw [if_neg hc] at hf
      refine lv_aload_n G.hx G.hb (dcs_get dec_X12_run_0 14 rfl) rfl (lv_at hl 0 rfl) ?_
      obtain ⟨σ11, h10, hf⟩ := cB_some hf
      refine a_v (k_V (As := []) (rest := []) cls12 lb_X12_copies lv_X12_copies q_1388 (C_X12_copies G.2.2.1 a0 σ h10 ok_a0) ⟨(Nat.le_of_ble_eq_true rfl), (Nat.le_of_ble_eq_true rfl)⟩ G w k_a0.1 k_a0.2 rfl rfl hl.1 (Nat.le_of_ble_eq_true rfl) (dcs_get dec_X12_run_0 15 rfl) ⟨Nat.le_refl _, Nat.le_refl _⟩) G w (fun H locs w => ?_)
      refine lv_iconst (v := (0 : Int32)) G.hx G.hb (dcs_get dec_X12_run_0 16 rfl) (by decide) ?_
      refine lv_istore_n (lv' := [(2, .int (0 : Int32)), (0, .ref (ad a0)), (1, .int l1)]) G.hx G.hb (dcs_get dec_X12_run_0 17 rfl) rfl hl (by decide) rfl (fun ls hl => ?_)
      exact B_X12_run_30 a0 l1 (0 : Int32) σ11 G hm ok_a0 hf  w (lv_sub hl [1, 2, 0] rfl)
    · rw [if_pos hc] at hf
      refine lv_aload_n G.hx G.hb (dcs_get dec_X12_run_0 9 rfl) rfl (lv_at hl 0 rfl) ?_
      obtain ⟨z12, e_z12, ok_z12, hf⟩ := cR_some hf
      have k_z12 := okr_in ok_z12
      refine r_getr (k := 53) cls12 fi_12_53.1 fi_12_53.2 q_1061 G w k_a0.1 k_a0.2 e_z12 (dcs_get dec_X12_run_0 10 rfl) ?_
      refine lv_bipush (v := (120 : Int32)) G.hx G.hb (dcs_get dec_X12_run_0 11 rfl) (by decide) ?_
      obtain ⟨h13, hf⟩ := cG_some hf
      refine r_iald G w k_z12.1 k_z12.2 h13 (dcs_get dec_X12_run_0 12 rfl) ?_
      have e9 := Option.some.inj hf
      exact r_iret G w hm (congrArg Prod.fst e9) (congrArg Prod.snd e9) (dcs_get dec_X12_run_0 13 rfl)
  · rw [if_pos hc] at hf
    refine lv_iconst (v := (-1 : Int32)) G.hx G.hb (dcs_get dec_X12_run_0 5 rfl) (by decide) ?_
    have e9 := Option.some.inj hf
    exact r_iret G w hm (congrArg Prod.fst e9) (congrArg Prod.snd e9) (dcs_get dec_X12_run_0 6 rfl)
end
set_option maxRecDepth 100000 in
set_option maxHeartbeats 4000000 in
theorem C_X12_run {l : Launch} {D : va_G} {ay : Nat → ClassId} {ad : Nat → Nat} (hi : hInj NM ad) (a0 : Nat) (l1 : Int32) (σ : hSt) {r0 : Int32} {σ0 : hSt} (hf : F_X12_run a0 l1 σ = some (r0, σ0)) (ok_a0 : okr kM NM 12 a0 = true) : hM l D ay kM NM ad yX12_run cX12_run 3 ((some .int)) (rmK 6 147) [.ref (ad a0), .int l1] σ (cI D ay kM NM ad r0 σ0) := by
  refine hM_in (by decide) hi (Nat.le_of_ble_eq_true rfl) ?_
  intro p e s m below meth c G hm w ls hl
  exact B_X12_run_0 a0 l1 σ G hm ok_a0 hf w (lv_sub hl [0, 1] rfl)

/-! HillDrumsModel.undo()Z -/
def DL_X12_undo_0 : List (Nat × Instr × Nat) := [(0, .aload_n 0, 1), (1, .getfield 254, 3), (4, .ifCond .ne 5, 3), (7, .iconst 0, 1), (8, .ireturn, 1), (9, .aload_n 0, 1), (10, .dup, 1), (11, .getfield 254, 3), (14, .iconst 1, 1), (15, .isub, 1), (16, .putfield 254, 3), (19, .iconst 0, 1), (20, .istore_n 1, 1), (21, .iload_n 1, 1), (22, .sipush 380, 3), (25, .if_icmp .ge 30, 3), (28, .aload_n 0, 1), (29, .getfield 125, 3), (32, .iload_n 1, 1), (33, .aload_n 0, 1), (34, .getfield 131, 3), (37, .sipush 380, 3), (40, .aload_n 0, 1), (41, .getfield 254, 3), (44, .imul, 1), (45, .iload_n 1, 1), (46, .iadd, 1), (47, .iaload, 1), (48, .iastore, 1), (49, .iinc 1 1, 3), (52, .goto (-31), 3), (55, .iconst 1, 1), (56, .ireturn, 1)]
set_option maxRecDepth 100000 in
theorem dec_X12_undo_0 : dcs cX12_undo DL_X12_undo_0 = true := by decide +kernel
theorem lb_X12_undo : lkB yX12_undo cX12_undo 2 ((some .boolean)) 0 := ⟨q_1447, q_14, ⟨by decide, by decide⟩, by decide +kernel⟩
theorem lv_X12_undo : lkV yX12_undo := ⟨q_1445, q_1446⟩
def F_X12_undo_21b (a0 : Nat) (l1 : Int32) (σ : hSt) : Option ((Int32 × hSt) ⊕ (Int32 × hSt)) :=
if (380 : Int32) ≤ l1 then (
some (.inr (((1 : Int32), σ)))) else (
cR (σ.2.2 a0 53) (okr kM NM 101) fun z1 =>
cR (σ.2.2 a0 58) (okr kM NM 101) fun z2 =>
cG (inb (((380 : Int32) * (σ.1 a0 57)) + l1) (kM z2).2) <|
cG (inb l1 (kM z1).2) <|
cL (uI σ z1 l1.toNatClampNeg (σ.1 z2 (((380 : Int32) * (σ.1 a0 57)) + l1).toNatClampNeg)) fun σ5 =>
cL (l1 + (1 : Int32)) fun v6 =>
some (.inl (v6, σ5)))
def S_X12_undo_21 (a0 : Nat) (v : Int32 × hSt) : Option ((Int32 × hSt) ⊕ (Int32 × hSt)) := F_X12_undo_21b a0 v.1 v.2
def F_X12_undo_21 (a0 : Nat) (l1 : Int32) (σ : hSt) : Option (Int32 × hSt) := lp (S_X12_undo_21 a0) fuel (l1, σ)
def F_X12_undo (a0 : Nat) (σ : hSt) : Option (Int32 × hSt) :=
if (σ.1 a0 57) = 0 then (
some (((0 : Int32), σ))) else (
cL (uI σ a0 57 ((σ.1 a0 57) - (1 : Int32))) fun σ7 =>
F_X12_undo_21 a0 (0 : Int32) σ7)
section
variable {p : Program} {l : Launch} {e : Env} {s : State} {m : MethodId} {args : Array Value} {below : List Frame} {meth : Method} {c : Code} {D : va_G} {ay : Nat → ClassId} {ad : Nat → Nat}
set_option maxRecDepth 100000 in
set_option maxHeartbeats 4000000 in
theorem B_X12_undo_21b {H : Heap} {locs : List Loc} {ls : Array Slot} {r0 : Int32} {σ0 : hSt} {o : (Int32 × hSt) ⊕ (Int32 × hSt)} (a0 : Nat) (l1 : Int32) (σ : hSt) (G : Gx p m c cX12_undo 2 s args RX12 D ay NM ad (aN NM ad)) (hm : meth.sig.returnType = (some .boolean) ∧ meth.locks = false) (ok_a0 : okr kM NM 12 a0 = true) (hf : F_X12_undo_21b a0 l1 σ = some o) (hb0 : ∀ (v : Int32 × hSt), o = .inl v → ∀ (H : Heap) (locs : List Loc) (ls : Array Slot), Wd D ay kM NM ad (aN NM ad) s v.2 H locs → lv_has ls 2 [(0, .ref (ad a0)), (1, .int v.1)] → W p l e (rmK 0 0) s m args below meth c H locs 0 0 (MQ below (cI D ay kM NM ad r0 σ0) args s 0 0 (aN NM ad)) (F0 m 21 ls [])) (hr : ∀ x, o = .inr (x) → x = (r0, σ0)) (w : Wd D ay kM NM ad (aN NM ad) s σ H locs) (hl : lv_has ls 2 [(0, .ref (ad a0)), (1, .int l1)]) : W p l e (rmK 0 0) s m args below meth c H locs 0 0 (MQ below (cI D ay kM NM ad r0 σ0) args s 0 0 (aN NM ad)) (F0 m 21 ls []) := by
  have k_a0 := okr_in ok_a0
  unfold F_X12_undo_21b at hf
  refine lv_iload_n G.hx G.hb (dcs_get dec_X12_undo_0 13 rfl) rfl (lv_at hl 1 rfl) ?_
  refine lv_sipush (v := (380 : Int32)) G.hx G.hb (dcs_get dec_X12_undo_0 14 rfl) (by decide) ?_
  refine lv_icmp_ge (tgt := 55) G.hx G.hb (dcs_get dec_X12_undo_0 15 rfl) (by decide) (fun hc => ?_) (fun hc => ?_)
  · rw [if_pos hc] at hf
    refine lv_iconst (v := (1 : Int32)) G.hx G.hb (dcs_get dec_X12_undo_0 31 rfl) (by decide) ?_
    have e9 := hr _ (Option.some.inj hf).symm
    exact r_zret rfl G w hm (congrArg Prod.fst e9) (congrArg Prod.snd e9) (dcs_get dec_X12_undo_0 32 rfl)
  · rw [if_neg hc] at hf
    refine lv_aload_n G.hx G.hb (dcs_get dec_X12_undo_0 16 rfl) rfl (lv_at hl 0 rfl) ?_
    obtain ⟨z1, e_z1, ok_z1, hf⟩ := cR_some hf
    have k_z1 := okr_in ok_z1
    refine r_getr (k := 53) cls12 fi_12_53.1 fi_12_53.2 q_1061 G w k_a0.1 k_a0.2 e_z1 (dcs_get dec_X12_undo_0 17 rfl) ?_
    refine lv_iload_n G.hx G.hb (dcs_get dec_X12_undo_0 18 rfl) rfl (lv_at hl 1 rfl) ?_
    refine lv_aload_n G.hx G.hb (dcs_get dec_X12_undo_0 19 rfl) rfl (lv_at hl 0 rfl) ?_
    obtain ⟨z2, e_z2, ok_z2, hf⟩ := cR_some hf
    have k_z2 := okr_in ok_z2
    refine r_getr (k := 58) cls12 fi_12_58.1 fi_12_58.2 q_1066 G w k_a0.1 k_a0.2 e_z2 (dcs_get dec_X12_undo_0 20 rfl) ?_
    refine lv_sipush (v := (380 : Int32)) G.hx G.hb (dcs_get dec_X12_undo_0 21 rfl) (by decide) ?_
    refine lv_aload_n G.hx G.hb (dcs_get dec_X12_undo_0 22 rfl) rfl (lv_at hl 0 rfl) ?_
    refine r_geti (k := 57) cls12 fi_12_57.1 fi_12_57.2 q_1065 G w k_a0.1 k_a0.2 (dcs_get dec_X12_undo_0 23 rfl) ?_
    refine lv_imul G.hx G.hb (dcs_get dec_X12_undo_0 24 rfl) ?_
    refine lv_iload_n G.hx G.hb (dcs_get dec_X12_undo_0 25 rfl) rfl (lv_at hl 1 rfl) ?_
    refine lv_iadd G.hx G.hb (dcs_get dec_X12_undo_0 26 rfl) ?_
    obtain ⟨h3, hf⟩ := cG_some hf
    refine r_iald G w k_z2.1 k_z2.2 h3 (dcs_get dec_X12_undo_0 27 rfl) ?_
    obtain ⟨h4, hf⟩ := cG_some hf
    obtain ⟨σ5, e_σ5, hf⟩ := cL_some hf
    refine r_iast G w k_z1.1 k_z1.2 h4 (dcs_get dec_X12_undo_0 28 rfl) (fun H locs w => ?_)
    have w := Wd.nm e_σ5 w
    obtain ⟨v6, e_v6, hf⟩ := cL_some hf
    refine lv_iinc (v := v6) (lv' := [(1, .int v6), (0, .ref (ad a0))]) G.hx G.hb (dcs_get dec_X12_undo_0 29 rfl) hl (k := 1) rfl (by rw [e_v6]; rfl) (by decide) rfl (fun ls hl => ?_)
    refine lv_goto (tgt := 21) G.hx G.hb (dcs_get dec_X12_undo_0 30 rfl) (by decide) ?_
    exact hb0 _ (Option.some.inj hf).symm _ _ _ w (lv_sub hl [1, 0] rfl)
set_option maxRecDepth 100000 in
set_option maxHeartbeats 4000000 in
theorem H_X12_undo_21 {r0 : Int32} {σ0 : hSt} (a0 : Nat) (G : Gx p m c cX12_undo 2 s args RX12 D ay NM ad (aN NM ad)) (hm : meth.sig.returnType = (some .boolean) ∧ meth.locks = false) (ok_a0 : okr kM NM 12 a0 = true)  : ∀ (k : Nat) (v : Int32 × hSt), lp (S_X12_undo_21 a0) k v = some (r0, σ0) → ∀ (H : Heap) (locs : List Loc) (ls : Array Slot), Wd D ay kM NM ad (aN NM ad) s v.2 H locs → lv_has ls 2 [(0, .ref (ad a0)), (1, .int v.1)] → W p l e (rmK 0 0) s m args below meth c H locs 0 0 (MQ below (cI D ay kM NM ad r0 σ0) args s 0 0 (aN NM ad)) (F0 m 21 ls []) := by
  intro k
  induction k with
  | zero => intro v hf; cases hf
  | succ k ih =>
    intro v hf H locs ls w hl
    obtain ⟨o1, h1, h2, h3⟩ := lp_some hf
    exact B_X12_undo_21b a0 v.1 v.2 G hm ok_a0 h1  (fun v' e => ih v' (h2 v' e)) (fun x e => h3 x e) w hl
set_option maxRecDepth 100000 in
set_option maxHeartbeats 4000000 in
theorem B_X12_undo_21 {H : Heap} {locs : List Loc} {ls : Array Slot} {r0 : Int32} {σ0 : hSt} (a0 : Nat) (l1 : Int32) (σ : hSt) (G : Gx p m c cX12_undo 2 s args RX12 D ay NM ad (aN NM ad)) (hm : meth.sig.returnType = (some .boolean) ∧ meth.locks = false) (ok_a0 : okr kM NM 12 a0 = true) (hf : F_X12_undo_21 a0 l1 σ = some (r0, σ0))  (w : Wd D ay kM NM ad (aN NM ad) s σ H locs) (hl : lv_has ls 2 [(0, .ref (ad a0)), (1, .int l1)]) : W p l e (rmK 0 0) s m args below meth c H locs 0 0 (MQ below (cI D ay kM NM ad r0 σ0) args s 0 0 (aN NM ad)) (F0 m 21 ls []) := by
  unfold F_X12_undo_21 at hf
  exact H_X12_undo_21 a0  G hm ok_a0  fuel (l1, σ) hf _ _ _ w hl
set_option maxRecDepth 100000 in
set_option maxHeartbeats 4000000 in
theorem B_X12_undo_0 {H : Heap} {locs : List Loc} {ls : Array Slot} {r0 : Int32} {σ0 : hSt} (a0 : Nat) (σ : hSt) (G : Gx p m c cX12_undo 2 s args RX12 D ay NM ad (aN NM ad)) (hm : meth.sig.returnType = (some .boolean) ∧ meth.locks = false) (ok_a0 : okr kM NM 12 a0 = true) (hf : F_X12_undo a0 σ = some (r0, σ0))  (w : Wd D ay kM NM ad (aN NM ad) s σ H locs) (hl : lv_has ls 2 [(0, .ref (ad a0))]) : W p l e (rmK 0 0) s m args below meth c H locs 0 0 (MQ below (cI D ay kM NM ad r0 σ0) args s 0 0 (aN NM ad)) (F0 m 0 ls []) := by
  have k_a0 := okr_in ok_a0
  unfold F_X12_undo at hf
  refine lv_aload_n G.hx G.hb (dcs_get dec_X12_undo_0 0 rfl) rfl (lv_at hl 0 rfl) ?_
  refine r_geti (k := 57) cls12 fi_12_57.1 fi_12_57.2 q_1065 G w k_a0.1 k_a0.2 (dcs_get dec_X12_undo_0 1 rfl) ?_
  refine lv_if_ne (tgt := 9) G.hx G.hb (dcs_get dec_X12_undo_0 2 rfl) (by decide) (fun hc => ?_) (fun hc => ?_)
  · rw [if_neg hc] at hf
    refine lv_aload_n G.hx G.hb (dcs_get dec_X12_undo_0 5 rfl) rfl (lv_at hl 0 rfl) ?_
    refine lv_dup G.hx G.hb (dcs_get dec_X12_undo_0 6 rfl) rfl ?_
    refine r_geti (k := 57) cls12 fi_12_57.1 fi_12_57.2 q_1065 G w k_a0.1 k_a0.2 (dcs_get dec_X12_undo_0 7 rfl) ?_
    refine lv_iconst (v := (1 : Int32)) G.hx G.hb (dcs_get dec_X12_undo_0 8 rfl) (by decide) ?_
    refine lv_isub G.hx G.hb (dcs_get dec_X12_undo_0 9 rfl) ?_
    obtain ⟨σ7, e_σ7, hf⟩ := cL_some hf
    refine r_puti (k := 57) cls12 ct12 fi_12_57.1 fi_12_57.2 fp_12_57.1 fp_12_57.2 q_1065 rfl rfl G w k_a0.1 k_a0.2 (dcs_get dec_X12_undo_0 10 rfl) (fun H locs w => ?_)
    have w := Wd.nm e_σ7 w
    refine lv_iconst (v := (0 : Int32)) G.hx G.hb (dcs_get dec_X12_undo_0 11 rfl) (by decide) ?_
    refine lv_istore_n (lv' := [(1, .int (0 : Int32)), (0, .ref (ad a0))]) G.hx G.hb (dcs_get dec_X12_undo_0 12 rfl) rfl hl (by decide) rfl (fun ls hl => ?_)
    exact B_X12_undo_21 a0 (0 : Int32) σ7 G hm ok_a0 hf  w (lv_sub hl [1, 0] rfl)
  · rw [if_pos hc] at hf
    refine lv_iconst (v := (0 : Int32)) G.hx G.hb (dcs_get dec_X12_undo_0 3 rfl) (by decide) ?_
    have e9 := Option.some.inj hf
    exact r_zret rfl G w hm (congrArg Prod.fst e9) (congrArg Prod.snd e9) (dcs_get dec_X12_undo_0 4 rfl)
end
set_option maxRecDepth 100000 in
set_option maxHeartbeats 4000000 in
theorem C_X12_undo {l : Launch} {D : va_G} {ay : Nat → ClassId} {ad : Nat → Nat} (hi : hInj NM ad) (a0 : Nat) (σ : hSt) {r0 : Int32} {σ0 : hSt} (hf : F_X12_undo a0 σ = some (r0, σ0)) (ok_a0 : okr kM NM 12 a0 = true) : hM l D ay kM NM ad yX12_undo cX12_undo 2 ((some .boolean)) (rmK 0 0) [.ref (ad a0)] σ (cI D ay kM NM ad r0 σ0) := by
  refine hM_in (by decide) hi (Nat.le_of_ble_eq_true rfl) ?_
  intro p e s m below meth c G hm w ls hl
  exact B_X12_undo_0 a0 σ G hm ok_a0 hf w (lv_sub hl [0] rfl)

/-! HillDrumsModel.knownBy(II)I -/
def DL_X12_knownBy_0 : List (Nat × Instr × Nat) := [(0, .iconst 0, 1), (1, .istore_n 3, 1), (2, .iload_n 3, 1), (3, .sipush 200, 3), (6, .if_icmp .gt 24, 3), (9, .aload_n 0, 1), (10, .iload_n 2, 1), (11, .iload_n 1, 1), (12, .invokevirtual 354, 3), (15, .ifCond .eq 5, 3), (18, .iload_n 3, 1), (19, .ireturn, 1), (20, .aload_n 0, 1), (21, .invokevirtual 390, 3), (24, .iinc 3 1, 3), (27, .goto (-25), 3), (30, .bipush (-2), 2), (32, .ireturn, 1)]
set_option maxRecDepth 100000 in
theorem dec_X12_knownBy_0 : dcs cX12_knownBy DL_X12_knownBy_0 = true := by decide +kernel
theorem lb_X12_knownBy : lkB yX12_knownBy cX12_knownBy 4 ((some .int)) 2 := ⟨q_1455, q_14, ⟨by decide, by decide⟩, by decide +kernel⟩
theorem lv_X12_knownBy : lkV yX12_knownBy := ⟨q_1454, qs_110⟩
def F_X12_knownBy_2b (a0 : Nat) (l1 : Int32) (l2 : Int32) (l3 : Int32) (σ : hSt) : Option ((Int32 × hSt) ⊕ (Int32 × hSt)) :=
if (200 : Int32) < l3 then (
some (.inr (((-2 : Int32), σ)))) else (
(F_X12_knows a0 l2 l1 σ).bind fun v2 =>
if v2 = 0 then (
(F_X12_dayByRule a0 σ).bind fun σ4 =>
cL (l3 + (1 : Int32)) fun v5 =>
some (.inl (v5, σ4))) else (
some (.inr ((l3, σ)))))
def S_X12_knownBy_2 (a0 : Nat) (l1 : Int32) (l2 : Int32) (v : Int32 × hSt) : Option ((Int32 × hSt) ⊕ (Int32 × hSt)) := F_X12_knownBy_2b a0 l1 l2 v.1 v.2
def F_X12_knownBy_2 (a0 : Nat) (l1 : Int32) (l2 : Int32) (l3 : Int32) (σ : hSt) : Option (Int32 × hSt) := lp (S_X12_knownBy_2 a0 l1 l2) fuel (l3, σ)
def F_X12_knownBy (a0 : Nat) (l1 : Int32) (l2 : Int32) (σ : hSt) : Option (Int32 × hSt) :=
F_X12_knownBy_2 a0 l1 l2 (0 : Int32) σ
section
variable {p : Program} {l : Launch} {e : Env} {s : State} {m : MethodId} {args : Array Value} {below : List Frame} {meth : Method} {c : Code} {D : va_G} {ay : Nat → ClassId} {ad : Nat → Nat}
set_option maxRecDepth 100000 in
set_option maxHeartbeats 4000000 in
theorem B_X12_knownBy_2b {H : Heap} {locs : List Loc} {ls : Array Slot} {r0 : Int32} {σ0 : hSt} {o : (Int32 × hSt) ⊕ (Int32 × hSt)} (a0 : Nat) (l1 : Int32) (l2 : Int32) (l3 : Int32) (σ : hSt) (G : Gx p m c cX12_knownBy 4 s args RX12 D ay NM ad (aN NM ad)) (hm : meth.sig.returnType = (some .int) ∧ meth.locks = false) (ok_a0 : okr kM NM 12 a0 = true) (hf : F_X12_knownBy_2b a0 l1 l2 l3 σ = some o) (hb0 : ∀ (v : Int32 × hSt), o = .inl v → ∀ (H : Heap) (locs : List Loc) (ls : Array Slot), Wd D ay kM NM ad (aN NM ad) s v.2 H locs → lv_has ls 4 [(0, .ref (ad a0)), (1, .int l1), (2, .int l2), (3, .int v.1)] → W p l e (rmK 6 147) s m args below meth c H locs 0 0 (MQ below (cI D ay kM NM ad r0 σ0) args s 0 0 (aN NM ad)) (F0 m 2 ls [])) (hr : ∀ x, o = .inr (x) → x = (r0, σ0)) (w : Wd D ay kM NM ad (aN NM ad) s σ H locs) (hl : lv_has ls 4 [(0, .ref (ad a0)), (1, .int l1), (2, .int l2), (3, .int l3)]) : W p l e (rmK 6 147) s m args below meth c H locs 0 0 (MQ below (cI D ay kM NM ad r0 σ0) args s 0 0 (aN NM ad)) (F0 m 2 ls []) := by
  have k_a0 := okr_in ok_a0
  unfold F_X12_knownBy_2b at hf
  refine lv_iload_n G.hx G.hb (dcs_get dec_X12_knownBy_0 2 rfl) rfl (lv_at hl 3 rfl) ?_
  refine lv_sipush (v := (200 : Int32)) G.hx G.hb (dcs_get dec_X12_knownBy_0 3 rfl) (by decide) ?_
  refine lv_icmp_gt (tgt := 30) G.hx G.hb (dcs_get dec_X12_knownBy_0 4 rfl) (by decide) (fun hc => ?_) (fun hc => ?_)
  · rw [if_pos hc] at hf
    refine lv_bipush (v := (-2 : Int32)) G.hx G.hb (dcs_get dec_X12_knownBy_0 16 rfl) (by decide) ?_
    have e9 := hr _ (Option.some.inj hf).symm
    exact r_iret G w hm (congrArg Prod.fst e9) (congrArg Prod.snd e9) (dcs_get dec_X12_knownBy_0 17 rfl)
  · rw [if_neg hc] at hf
    refine lv_aload_n G.hx G.hb (dcs_get dec_X12_knownBy_0 5 rfl) rfl (lv_at hl 0 rfl) ?_
    refine lv_iload_n G.hx G.hb (dcs_get dec_X12_knownBy_0 6 rfl) rfl (lv_at hl 2 rfl) ?_
    refine lv_iload_n G.hx G.hb (dcs_get dec_X12_knownBy_0 7 rfl) rfl (lv_at hl 1 rfl) ?_
    obtain ⟨v2, h1, hf⟩ := cB_some hf
    refine a_i (k_V (As := [.int l2, .int l1]) (rest := []) cls12 lb_X12_knows lv_X12_knows q_1392 (C_X12_knows G.2.2.1 a0 l2 l1 σ h1 ok_a0) ⟨(Nat.le_of_ble_eq_true rfl), (Nat.le_of_ble_eq_true rfl)⟩ G w k_a0.1 k_a0.2 rfl rfl hl.1 (Nat.le_of_ble_eq_true rfl) (dcs_get dec_X12_knownBy_0 8 rfl) ⟨Nat.le_refl _, Nat.le_refl _⟩) G w (fun H locs w => ?_)
    refine lv_if_eq (tgt := 20) G.hx G.hb (dcs_get dec_X12_knownBy_0 9 rfl) (by decide) (fun hc => ?_) (fun hc => ?_)
    · rw [if_pos hc] at hf
      refine lv_aload_n G.hx G.hb (dcs_get dec_X12_knownBy_0 12 rfl) rfl (lv_at hl 0 rfl) ?_
      obtain ⟨σ4, h3, hf⟩ := cB_some hf
      refine a_v (k_V (As := []) (rest := []) cls12 lb_X12_dayByRule lv_X12_dayByRule q_1436 (C_X12_dayByRule G.2.2.1 a0 σ h3 ok_a0) ⟨(Nat.le_of_ble_eq_true rfl), (Nat.le_of_ble_eq_true rfl)⟩ G w k_a0.1 k_a0.2 rfl rfl hl.1 (Nat.le_of_ble_eq_true rfl) (dcs_get dec_X12_knownBy_0 13 rfl) ⟨Nat.le_refl _, Nat.le_refl _⟩) G w (fun H locs w => ?_)
      obtain ⟨v5, e_v5, hf⟩ := cL_some hf
      refine lv_iinc (v := v5) (lv' := [(3, .int v5), (0, .ref (ad a0)), (1, .int l1), (2, .int l2)]) G.hx G.hb (dcs_get dec_X12_knownBy_0 14 rfl) hl (k := 3) rfl (by rw [e_v5]; rfl) (by decide) rfl (fun ls hl => ?_)
      refine lv_goto (tgt := 2) G.hx G.hb (dcs_get dec_X12_knownBy_0 15 rfl) (by decide) ?_
      exact hb0 _ (Option.some.inj hf).symm _ _ _ w (lv_sub hl [1, 2, 3, 0] rfl)
    · rw [if_neg hc] at hf
      refine lv_iload_n G.hx G.hb (dcs_get dec_X12_knownBy_0 10 rfl) rfl (lv_at hl 3 rfl) ?_
      have e9 := hr _ (Option.some.inj hf).symm
      exact r_iret G w hm (congrArg Prod.fst e9) (congrArg Prod.snd e9) (dcs_get dec_X12_knownBy_0 11 rfl)
set_option maxRecDepth 100000 in
set_option maxHeartbeats 4000000 in
theorem H_X12_knownBy_2 {r0 : Int32} {σ0 : hSt} (a0 : Nat) (l1 : Int32) (l2 : Int32) (G : Gx p m c cX12_knownBy 4 s args RX12 D ay NM ad (aN NM ad)) (hm : meth.sig.returnType = (some .int) ∧ meth.locks = false) (ok_a0 : okr kM NM 12 a0 = true)  : ∀ (k : Nat) (v : Int32 × hSt), lp (S_X12_knownBy_2 a0 l1 l2) k v = some (r0, σ0) → ∀ (H : Heap) (locs : List Loc) (ls : Array Slot), Wd D ay kM NM ad (aN NM ad) s v.2 H locs → lv_has ls 4 [(0, .ref (ad a0)), (1, .int l1), (2, .int l2), (3, .int v.1)] → W p l e (rmK 6 147) s m args below meth c H locs 0 0 (MQ below (cI D ay kM NM ad r0 σ0) args s 0 0 (aN NM ad)) (F0 m 2 ls []) := by
  intro k
  induction k with
  | zero => intro v hf; cases hf
  | succ k ih =>
    intro v hf H locs ls w hl
    obtain ⟨o1, h1, h2, h3⟩ := lp_some hf
    exact B_X12_knownBy_2b a0 l1 l2 v.1 v.2 G hm ok_a0 h1  (fun v' e => ih v' (h2 v' e)) (fun x e => h3 x e) w hl
set_option maxRecDepth 100000 in
set_option maxHeartbeats 4000000 in
theorem B_X12_knownBy_2 {H : Heap} {locs : List Loc} {ls : Array Slot} {r0 : Int32} {σ0 : hSt} (a0 : Nat) (l1 : Int32) (l2 : Int32) (l3 : Int32) (σ : hSt) (G : Gx p m c cX12_knownBy 4 s args RX12 D ay NM ad (aN NM ad)) (hm : meth.sig.returnType = (some .int) ∧ meth.locks = false) (ok_a0 : okr kM NM 12 a0 = true) (hf : F_X12_knownBy_2 a0 l1 l2 l3 σ = some (r0, σ0))  (w : Wd D ay kM NM ad (aN NM ad) s σ H locs) (hl : lv_has ls 4 [(0, .ref (ad a0)), (1, .int l1), (2, .int l2), (3, .int l3)]) : W p l e (rmK 6 147) s m args below meth c H locs 0 0 (MQ below (cI D ay kM NM ad r0 σ0) args s 0 0 (aN NM ad)) (F0 m 2 ls []) := by
  unfold F_X12_knownBy_2 at hf
  exact H_X12_knownBy_2 a0 l1 l2  G hm ok_a0  fuel (l3, σ) hf _ _ _ w hl
set_option maxRecDepth 100000 in
set_option maxHeartbeats 4000000 in
theorem B_X12_knownBy_0 {H : Heap} {locs : List Loc} {ls : Array Slot} {r0 : Int32} {σ0 : hSt} (a0 : Nat) (l1 : Int32) (l2 : Int32) (σ : hSt) (G : Gx p m c cX12_knownBy 4 s args RX12 D ay NM ad (aN NM ad)) (hm : meth.sig.returnType = (some .int) ∧ meth.locks = false) (ok_a0 : okr kM NM 12 a0 = true) (hf : F_X12_knownBy a0 l1 l2 σ = some (r0, σ0))  (w : Wd D ay kM NM ad (aN NM ad) s σ H locs) (hl : lv_has ls 4 [(0, .ref (ad a0)), (1, .int l1), (2, .int l2)]) : W p l e (rmK 6 147) s m args below meth c H locs 0 0 (MQ below (cI D ay kM NM ad r0 σ0) args s 0 0 (aN NM ad)) (F0 m 0 ls []) := by
  have k_a0 := okr_in ok_a0
  unfold F_X12_knownBy at hf
  refine lv_iconst (v := (0 : Int32)) G.hx G.hb (dcs_get dec_X12_knownBy_0 0 rfl) (by decide) ?_
  refine lv_istore_n (lv' := [(3, .int (0 : Int32)), (0, .ref (ad a0)), (1, .int l1), (2, .int l2)]) G.hx G.hb (dcs_get dec_X12_knownBy_0 1 rfl) rfl hl (by decide) rfl (fun ls hl => ?_)
  exact B_X12_knownBy_2 a0 l1 l2 (0 : Int32) σ G hm ok_a0 hf  w (lv_sub hl [1, 2, 3, 0] rfl)
end
set_option maxRecDepth 100000 in
set_option maxHeartbeats 4000000 in
theorem C_X12_knownBy {l : Launch} {D : va_G} {ay : Nat → ClassId} {ad : Nat → Nat} (hi : hInj NM ad) (a0 : Nat) (l1 : Int32) (l2 : Int32) (σ : hSt) {r0 : Int32} {σ0 : hSt} (hf : F_X12_knownBy a0 l1 l2 σ = some (r0, σ0)) (ok_a0 : okr kM NM 12 a0 = true) : hM l D ay kM NM ad yX12_knownBy cX12_knownBy 4 ((some .int)) (rmK 6 147) [.ref (ad a0), .int l1, .int l2] σ (cI D ay kM NM ad r0 σ0) := by
  refine hM_in (by decide) hi (Nat.le_of_ble_eq_true rfl) ?_
  intro p e s m below meth c G hm w ls hl
  exact B_X12_knownBy_0 a0 l1 l2 σ G hm ok_a0 hf w (lv_sub hl [0, 1, 2] rfl)

/-! HillDrumsModel.byRule(II)I -/
def DL_X12_byRule_0 : List (Nat × Instr × Nat) := [(0, .aload_n 0, 1), (1, .iload_n 1, 1), (2, .invokevirtual 377, 3), (5, .ifCond .eq 11, 3), (8, .aload_n 0, 1), (9, .iload_n 2, 1), (10, .invokevirtual 342, 3), (13, .ifCond .ne 5, 3), (16, .iconst (-1), 1), (17, .ireturn, 1), (18, .aload_n 0, 1), (19, .invokevirtual 380, 3), (22, .aload_n 0, 1), (23, .iload_n 1, 1), (24, .iload_n 2, 1), (25, .invokevirtual 393, 3), (28, .ireturn, 1)]
set_option maxRecDepth 100000 in
theorem dec_X12_byRule_0 : dcs cX12_byRule DL_X12_byRule_0 = true := by decide +kernel
theorem lb_X12_byRule : lkB yX12_byRule cX12_byRule 3 ((some .int)) 2 := ⟨q_1451, q_14, ⟨by decide, by decide⟩, by decide +kernel⟩
theorem lv_X12_byRule : lkV yX12_byRule := ⟨q_1449, q_1450⟩
def F_X12_byRule_16  (σ : hSt) : Option (Int32 × hSt) :=
some (((-1 : Int32), σ))
def F_X12_byRule (a0 : Nat) (l1 : Int32) (l2 : Int32) (σ : hSt) : Option (Int32 × hSt) :=
(F_X12_isNews a0 l1 σ).bind fun v2 =>
if v2 = 0 then (
F_X12_byRule_16  σ) else (
(F_X12_isHill a0 l2 σ).bind fun v4 =>
if v4 = 0 then (
F_X12_byRule_16  σ) else (
(F_X12_copies a0 σ).bind fun σ6 =>
cC (F_X12_knownBy a0 l1 l2 σ6) fun v8 σ9 =>
some ((v8, σ9))))
section
variable {p : Program} {l : Launch} {e : Env} {s : State} {m : MethodId} {args : Array Value} {below : List Frame} {meth : Method} {c : Code} {D : va_G} {ay : Nat → ClassId} {ad : Nat → Nat}
set_option maxRecDepth 100000 in
set_option maxHeartbeats 4000000 in
theorem B_X12_byRule_16 {H : Heap} {locs : List Loc} {ls : Array Slot} {r0 : Int32} {σ0 : hSt}  (σ : hSt) (G : Gx p m c cX12_byRule 3 s args RX12 D ay NM ad (aN NM ad)) (hm : meth.sig.returnType = (some .int) ∧ meth.locks = false)  (hf : F_X12_byRule_16  σ = some (r0, σ0))  (w : Wd D ay kM NM ad (aN NM ad) s σ H locs) (hl : lv_has ls 3 []) : W p l e (rmK 7 170) s m args below meth c H locs 0 0 (MQ below (cI D ay kM NM ad r0 σ0) args s 0 0 (aN NM ad)) (F0 m 16 ls []) := by
  unfold F_X12_byRule_16 at hf
  refine lv_iconst (v := (-1 : Int32)) G.hx G.hb (dcs_get dec_X12_byRule_0 8 rfl) (by decide) ?_
  have e9 := Option.some.inj hf
  exact r_iret G w hm (congrArg Prod.fst e9) (congrArg Prod.snd e9) (dcs_get dec_X12_byRule_0 9 rfl)
set_option maxRecDepth 100000 in
set_option maxHeartbeats 4000000 in
theorem B_X12_byRule_0 {H : Heap} {locs : List Loc} {ls : Array Slot} {r0 : Int32} {σ0 : hSt} (a0 : Nat) (l1 : Int32) (l2 : Int32) (σ : hSt) (G : Gx p m c cX12_byRule 3 s args RX12 D ay NM ad (aN NM ad)) (hm : meth.sig.returnType = (some .int) ∧ meth.locks = false) (ok_a0 : okr kM NM 12 a0 = true) (hf : F_X12_byRule a0 l1 l2 σ = some (r0, σ0))  (w : Wd D ay kM NM ad (aN NM ad) s σ H locs) (hl : lv_has ls 3 [(0, .ref (ad a0)), (1, .int l1), (2, .int l2)]) : W p l e (rmK 7 170) s m args below meth c H locs 0 0 (MQ below (cI D ay kM NM ad r0 σ0) args s 0 0 (aN NM ad)) (F0 m 0 ls []) := by
  have k_a0 := okr_in ok_a0
  unfold F_X12_byRule at hf
  refine lv_aload_n G.hx G.hb (dcs_get dec_X12_byRule_0 0 rfl) rfl (lv_at hl 0 rfl) ?_
  refine lv_iload_n G.hx G.hb (dcs_get dec_X12_byRule_0 1 rfl) rfl (lv_at hl 1 rfl) ?_
  obtain ⟨v2, h1, hf⟩ := cB_some hf
  refine a_i (k_V (As := [.int l1]) (rest := []) cls12 lb_X12_isNews lv_X12_isNews q_1376 (C_X12_isNews G.2.2.1 a0 l1 σ h1 ok_a0) ⟨(Nat.le_of_ble_eq_true rfl), (Nat.le_of_ble_eq_true rfl)⟩ G w k_a0.1 k_a0.2 rfl rfl hl.1 (Nat.le_of_ble_eq_true rfl) (dcs_get dec_X12_byRule_0 2 rfl) ⟨Nat.le_refl _, Nat.le_refl _⟩) G w (fun H locs w => ?_)
  refine lv_if_eq (tgt := 16) G.hx G.hb (dcs_get dec_X12_byRule_0 3 rfl) (by decide) (fun hc => ?_) (fun hc => ?_)
  · rw [if_pos hc] at hf
    exact B_X12_byRule_16  σ G hm  hf  w (lv_sub hl [] rfl)
  · rw [if_neg hc] at hf
    refine lv_aload_n G.hx G.hb (dcs_get dec_X12_byRule_0 4 rfl) rfl (lv_at hl 0 rfl) ?_
    refine lv_iload_n G.hx G.hb (dcs_get dec_X12_byRule_0 5 rfl) rfl (lv_at hl 2 rfl) ?_
    obtain ⟨v4, h3, hf⟩ := cB_some hf
    refine a_i (k_V (As := [.int l2]) (rest := []) cls12 lb_X12_isHill lv_X12_isHill q_1346 (C_X12_isHill G.2.2.1 a0 l2 σ h3 ok_a0) ⟨(Nat.le_of_ble_eq_true rfl), (Nat.le_of_ble_eq_true rfl)⟩ G w k_a0.1 k_a0.2 rfl rfl hl.1 (Nat.le_of_ble_eq_true rfl) (dcs_get dec_X12_byRule_0 6 rfl) ⟨Nat.le_refl _, Nat.le_refl _⟩) G w (fun H locs w => ?_)
    refine lv_if_ne (tgt := 18) G.hx G.hb (dcs_get dec_X12_byRule_0 7 rfl) (by decide) (fun hc => ?_) (fun hc => ?_)
    · rw [if_neg hc] at hf
      refine lv_aload_n G.hx G.hb (dcs_get dec_X12_byRule_0 10 rfl) rfl (lv_at hl 0 rfl) ?_
      obtain ⟨σ6, h5, hf⟩ := cB_some hf
      refine a_v (k_V (As := []) (rest := []) cls12 lb_X12_copies lv_X12_copies q_1388 (C_X12_copies G.2.2.1 a0 σ h5 ok_a0) ⟨(Nat.le_of_ble_eq_true rfl), (Nat.le_of_ble_eq_true rfl)⟩ G w k_a0.1 k_a0.2 rfl rfl hl.1 (Nat.le_of_ble_eq_true rfl) (dcs_get dec_X12_byRule_0 11 rfl) ⟨Nat.le_refl _, Nat.le_refl _⟩) G w (fun H locs w => ?_)
      refine lv_aload_n G.hx G.hb (dcs_get dec_X12_byRule_0 12 rfl) rfl (lv_at hl 0 rfl) ?_
      refine lv_iload_n G.hx G.hb (dcs_get dec_X12_byRule_0 13 rfl) rfl (lv_at hl 1 rfl) ?_
      refine lv_iload_n G.hx G.hb (dcs_get dec_X12_byRule_0 14 rfl) rfl (lv_at hl 2 rfl) ?_
      obtain ⟨v8, σ9, h7, hf⟩ := cC_some hf
      refine a_i (k_V (As := [.int l1, .int l2]) (rest := []) cls12 lb_X12_knownBy lv_X12_knownBy q_1452 (C_X12_knownBy G.2.2.1 a0 l1 l2 σ6 h7 ok_a0) ⟨(Nat.le_of_ble_eq_true rfl), (Nat.le_of_ble_eq_true rfl)⟩ G w k_a0.1 k_a0.2 rfl rfl hl.1 (Nat.le_of_ble_eq_true rfl) (dcs_get dec_X12_byRule_0 15 rfl) ⟨Nat.le_refl _, Nat.le_refl _⟩) G w (fun H locs w => ?_)
      have e9 := Option.some.inj hf
      exact r_iret G w hm (congrArg Prod.fst e9) (congrArg Prod.snd e9) (dcs_get dec_X12_byRule_0 16 rfl)
    · rw [if_pos hc] at hf
      exact B_X12_byRule_16  σ G hm  hf  w (lv_sub hl [] rfl)
end
set_option maxRecDepth 100000 in
set_option maxHeartbeats 4000000 in
theorem C_X12_byRule {l : Launch} {D : va_G} {ay : Nat → ClassId} {ad : Nat → Nat} (hi : hInj NM ad) (a0 : Nat) (l1 : Int32) (l2 : Int32) (σ : hSt) {r0 : Int32} {σ0 : hSt} (hf : F_X12_byRule a0 l1 l2 σ = some (r0, σ0)) (ok_a0 : okr kM NM 12 a0 = true) : hM l D ay kM NM ad yX12_byRule cX12_byRule 3 ((some .int)) (rmK 7 170) [.ref (ad a0), .int l1, .int l2] σ (cI D ay kM NM ad r0 σ0) := by
  refine hM_in (by decide) hi (Nat.le_of_ble_eq_true rfl) ?_
  intro p e s m below meth c G hm w ls hl
  exact B_X12_byRule_0 a0 l1 l2 σ G hm ok_a0 hf w (lv_sub hl [0, 1, 2] rfl)
