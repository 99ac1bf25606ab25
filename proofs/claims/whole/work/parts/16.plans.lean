/-! HillDrums.Loop.codeOf(IIZ)I -/
def DL_X1_codeOf_0 : List (Nat × Instr × Nat) := [(0, .bipush 100, 2), (2, .iload_n 0, 1), (3, .imul, 1), (4, .bipush 10, 2), (6, .iload_n 1, 1), (7, .imul, 1), (8, .iadd, 1), (9, .iload_n 2, 1), (10, .ifCond .eq 7, 3), (13, .iconst 1, 1), (14, .goto 4, 3), (17, .iconst 0, 1), (18, .iadd, 1), (19, .ireturn, 1)]
set_option maxRecDepth 100000 in
theorem dec_X1_codeOf_0 : dcs cX1_codeOf DL_X1_codeOf_0 = true := by decide +kernel
theorem lb_X1_codeOf : lkB yX1_codeOf cX1_codeOf 3 ((some .int)) 3 := ⟨q_927, q_12, ⟨by decide, by decide⟩, by decide +kernel⟩
def F_X1_codeOf_18 (s0 : Int32) (s1 : Int32) (σ : hSt) : Option (Int32) :=
some (s0 + s1)
def F_X1_codeOf (l0 : Int32) (l1 : Int32) (l2 : Int32) (σ : hSt) : Option (Int32) :=
if l2 = 0 then (
F_X1_codeOf_18 (((100 : Int32) * l0) + ((10 : Int32) * l1)) (0 : Int32) σ) else (
F_X1_codeOf_18 (((100 : Int32) * l0) + ((10 : Int32) * l1)) (1 : Int32) σ)
section
variable {p : Program} {l : Launch} {e : Env} {s : State} {m : MethodId} {args : Array Value} {below : List Frame} {meth : Method} {c : Code} {D : va_G} {ay : Nat → ClassId} {ad : Nat → Nat}
set_option maxRecDepth 100000 in
set_option maxHeartbeats 4000000 in
theorem B_X1_codeOf_18 {H : Heap} {locs : List Loc} {ls : Array Slot} {r0 : Int32} (s0 : Int32) (s1 : Int32) (σ : hSt) (G : Gx p m c cX1_codeOf 3 s args RX1 D ay NC ad (aN NC ad)) (hm : meth.sig.returnType = (some .int) ∧ meth.locks = false)  (hf : F_X1_codeOf_18 s0 s1 σ = some r0)  (w : Wd D ay kC NC ad (aN NC ad) s σ H locs) (hl : lv_has ls 3 []) : W p l e (rmK 0 0) s m args below meth c H locs 0 0 (MQ below (cI D ay kC NC ad r0 σ) args s 0 0 (aN NC ad)) (F0 m 18 ls [.int s1, .int s0]) := by
  unfold F_X1_codeOf_18 at hf
  refine lv_iadd G.hx G.hb (dcs_get dec_X1_codeOf_0 12 rfl) ?_
  have e9 := Option.some.inj hf
  exact r_iret G w hm e9 rfl (dcs_get dec_X1_codeOf_0 13 rfl)
set_option maxRecDepth 100000 in
set_option maxHeartbeats 4000000 in
theorem B_X1_codeOf_0 {H : Heap} {locs : List Loc} {ls : Array Slot} {r0 : Int32} (l0 : Int32) (l1 : Int32) (l2 : Int32) (σ : hSt) (G : Gx p m c cX1_codeOf 3 s args RX1 D ay NC ad (aN NC ad)) (hm : meth.sig.returnType = (some .int) ∧ meth.locks = false)  (hf : F_X1_codeOf l0 l1 l2 σ = some r0)  (w : Wd D ay kC NC ad (aN NC ad) s σ H locs) (hl : lv_has ls 3 [(0, .int l0), (1, .int l1), (2, .int l2)]) : W p l e (rmK 0 0) s m args below meth c H locs 0 0 (MQ below (cI D ay kC NC ad r0 σ) args s 0 0 (aN NC ad)) (F0 m 0 ls []) := by
  unfold F_X1_codeOf at hf
  refine lv_bipush (v := (100 : Int32)) G.hx G.hb (dcs_get dec_X1_codeOf_0 0 rfl) (by decide) ?_
  refine lv_iload_n G.hx G.hb (dcs_get dec_X1_codeOf_0 1 rfl) rfl (lv_at hl 0 rfl) ?_
  refine lv_imul G.hx G.hb (dcs_get dec_X1_codeOf_0 2 rfl) ?_
  refine lv_bipush (v := (10 : Int32)) G.hx G.hb (dcs_get dec_X1_codeOf_0 3 rfl) (by decide) ?_
  refine lv_iload_n G.hx G.hb (dcs_get dec_X1_codeOf_0 4 rfl) rfl (lv_at hl 1 rfl) ?_
  refine lv_imul G.hx G.hb (dcs_get dec_X1_codeOf_0 5 rfl) ?_
  refine lv_iadd G.hx G.hb (dcs_get dec_X1_codeOf_0 6 rfl) ?_
  refine lv_iload_n G.hx G.hb (dcs_get dec_X1_codeOf_0 7 rfl) rfl (lv_at hl 2 rfl) ?_
  refine lv_if_eq (tgt := 17) G.hx G.hb (dcs_get dec_X1_codeOf_0 8 rfl) (by decide) (fun hc => ?_) (fun hc => ?_)
  · rw [if_pos hc] at hf
    refine lv_iconst (v := (0 : Int32)) G.hx G.hb (dcs_get dec_X1_codeOf_0 11 rfl) (by decide) ?_
    exact B_X1_codeOf_18 (((100 : Int32) * l0) + ((10 : Int32) * l1)) (0 : Int32) σ G hm  hf  w (lv_sub hl [] rfl)
  · rw [if_neg hc] at hf
    refine lv_iconst (v := (1 : Int32)) G.hx G.hb (dcs_get dec_X1_codeOf_0 9 rfl) (by decide) ?_
    refine lv_goto (tgt := 18) G.hx G.hb (dcs_get dec_X1_codeOf_0 10 rfl) (by decide) ?_
    exact B_X1_codeOf_18 (((100 : Int32) * l0) + ((10 : Int32) * l1)) (1 : Int32) σ G hm  hf  w (lv_sub hl [] rfl)
end
set_option maxRecDepth 100000 in
set_option maxHeartbeats 4000000 in
theorem C_X1_codeOf {l : Launch} {D : va_G} {ay : Nat → ClassId} {ad : Nat → Nat} (hi : hInj NC ad) (l0 : Int32) (l1 : Int32) (l2 : Int32) (σ : hSt) {r0 : Int32} (hf : F_X1_codeOf l0 l1 l2 σ = some r0)  : hM l D ay kC NC ad yX1_codeOf cX1_codeOf 3 ((some .int)) (rmK 0 0) [.int l0, .int l1, .int l2] σ (cI D ay kC NC ad r0 σ) := by
  refine hM_in (by decide) hi (Nat.le_of_ble_eq_true rfl) ?_
  intro p e s m below meth c G hm w ls hl
  exact B_X1_codeOf_0 l0 l1 l2 σ G hm  hf w (lv_sub hl [0, 1, 2] rfl)

/-! HillDrums.Loop.lastDrum(LHillDrums$Text;LHillDrums$World;II)I -/
def DL_X1_lastDrum_0 : List (Nat × Instr × Nat) := [(0, .aload_n 1, 1), (1, .iload_n 2, 1), (2, .iload_n 3, 1), (3, .invokevirtual 42, 3), (6, .ifCond .ne 5, 3), (9, .iconst (-1), 1), (10, .ireturn, 1), (11, .aload_n 1, 1), (12, .aload_n 0, 1), (13, .getfield 46, 3), (16, .iload_n 2, 1), (17, .iload_n 3, 1), (18, .iconst 0, 1), (19, .invokevirtual 49, 3), (22, .ifCond .ne 10, 3), (25, .iload_n 2, 1), (26, .iload_n 3, 1), (27, .iconst 0, 1), (28, .invokestatic 61, 3), (31, .ireturn, 1), (32, .aload_n 1, 1), (33, .aload_n 0, 1), (34, .getfield 46, 3), (37, .iload_n 2, 1), (38, .iload_n 3, 1), (39, .iconst 1, 1), (40, .invokevirtual 49, 3), (43, .ifCond .eq 7, 3), (46, .iconst (-1), 1), (47, .goto 9, 3), (50, .iload_n 2, 1), (51, .iload_n 3, 1), (52, .iconst 1, 1), (53, .invokestatic 61, 3), (56, .ireturn, 1)]
set_option maxRecDepth 100000 in
theorem dec_X1_lastDrum_0 : dcs cX1_lastDrum DL_X1_lastDrum_0 = true := by decide +kernel
theorem lb_X1_lastDrum : lkB yX1_lastDrum cX1_lastDrum 4 ((some .int)) 4 := ⟨q_930, q_12, ⟨by decide, by decide⟩, by decide +kernel⟩
def F_X1_lastDrum_56 (s0 : Int32) (σ : hSt) : Option (Int32) :=
some (s0)
def F_X1_lastDrum (a0 : Nat) (a1 : Nat) (l2 : Int32) (l3 : Int32) (σ : hSt) : Option (Int32) :=
(F_X10_isAble a1 l2 l3 σ).bind fun v2 =>
if v2 = 0 then (
some ((-1 : Int32))) else (
(F_X10_isAnswer a1 (σ.1 a0 8) l2 l3 (0 : Int32) σ).bind fun v4 =>
if v4 = 0 then (
(F_X1_codeOf l2 l3 (0 : Int32) σ).bind fun v10 =>
some (v10)) else (
(F_X10_isAnswer a1 (σ.1 a0 8) l2 l3 (1 : Int32) σ).bind fun v6 =>
if v6 = 0 then (
(F_X1_codeOf l2 l3 (1 : Int32) σ).bind fun v8 =>
F_X1_lastDrum_56 v8 σ) else (
F_X1_lastDrum_56 (-1 : Int32) σ)))
section
variable {p : Program} {l : Launch} {e : Env} {s : State} {m : MethodId} {args : Array Value} {below : List Frame} {meth : Method} {c : Code} {D : va_G} {ay : Nat → ClassId} {ad : Nat → Nat}
set_option maxRecDepth 100000 in
set_option maxHeartbeats 4000000 in
theorem B_X1_lastDrum_56 {H : Heap} {locs : List Loc} {ls : Array Slot} {r0 : Int32} (s0 : Int32) (σ : hSt) (G : Gx p m c cX1_lastDrum 4 s args RX1 D ay NC ad (aN NC ad)) (hm : meth.sig.returnType = (some .int) ∧ meth.locks = false)  (hf : F_X1_lastDrum_56 s0 σ = some r0)  (w : Wd D ay kC NC ad (aN NC ad) s σ H locs) (hl : lv_has ls 4 []) : W p l e (rmK 3 65) s m args below meth c H locs 0 0 (MQ below (cI D ay kC NC ad r0 σ) args s 0 0 (aN NC ad)) (F0 m 56 ls [.int s0]) := by
  unfold F_X1_lastDrum_56 at hf
  have e9 := Option.some.inj hf
  exact r_iret G w hm e9 rfl (dcs_get dec_X1_lastDrum_0 34 rfl)
set_option maxRecDepth 100000 in
set_option maxHeartbeats 4000000 in
theorem B_X1_lastDrum_0 {H : Heap} {locs : List Loc} {ls : Array Slot} {r0 : Int32} (a0 : Nat) (a1 : Nat) (l2 : Int32) (l3 : Int32) (σ : hSt) (G : Gx p m c cX1_lastDrum 4 s args RX1 D ay NC ad (aN NC ad)) (hm : meth.sig.returnType = (some .int) ∧ meth.locks = false) (ok_a0 : okr kC NC 7 a0 = true) (ok_a1 : okr kC NC 10 a1 = true) (hf : F_X1_lastDrum a0 a1 l2 l3 σ = some r0)  (w : Wd D ay kC NC ad (aN NC ad) s σ H locs) (hl : lv_has ls 4 [(0, .ref (ad a0)), (1, .ref (ad a1)), (2, .int l2), (3, .int l3)]) : W p l e (rmK 3 65) s m args below meth c H locs 0 0 (MQ below (cI D ay kC NC ad r0 σ) args s 0 0 (aN NC ad)) (F0 m 0 ls []) := by
  have k_a0 := okr_in ok_a0
  have k_a1 := okr_in ok_a1
  unfold F_X1_lastDrum at hf
  refine lv_aload_n G.hx G.hb (dcs_get dec_X1_lastDrum_0 0 rfl) rfl (lv_at hl 1 rfl) ?_
  refine lv_iload_n G.hx G.hb (dcs_get dec_X1_lastDrum_0 1 rfl) rfl (lv_at hl 2 rfl) ?_
  refine lv_iload_n G.hx G.hb (dcs_get dec_X1_lastDrum_0 2 rfl) rfl (lv_at hl 3 rfl) ?_
  obtain ⟨v2, h1, hf⟩ := cB_some hf
  refine a_i (k_VN (As := [.int l2, .int l3]) (rest := []) cls10 lb_X10_isAble lv_X10_isAble nm_921 (C_X10_isAble G.2.2.1 a1 l2 l3 σ h1 ok_a1) ⟨(Nat.le_of_ble_eq_true rfl), (Nat.le_of_ble_eq_true rfl)⟩ G w k_a1.1 k_a1.2 rfl rfl hl.1 (Nat.le_of_ble_eq_true rfl) (dcs_get dec_X1_lastDrum_0 3 rfl) ⟨Nat.le_refl _, Nat.le_refl _⟩) G w (fun H locs w => ?_)
  refine lv_if_ne (tgt := 11) G.hx G.hb (dcs_get dec_X1_lastDrum_0 4 rfl) (by decide) (fun hc => ?_) (fun hc => ?_)
  · rw [if_neg hc] at hf
    refine lv_aload_n G.hx G.hb (dcs_get dec_X1_lastDrum_0 7 rfl) rfl (lv_at hl 1 rfl) ?_
    refine lv_aload_n G.hx G.hb (dcs_get dec_X1_lastDrum_0 8 rfl) rfl (lv_at hl 0 rfl) ?_
    refine r_getiN (k := 8) cls7 fi_7_8.1 fi_7_8.2 nf_119 G w k_a0.1 k_a0.2 (dcs_get dec_X1_lastDrum_0 9 rfl) ?_
    refine lv_iload_n G.hx G.hb (dcs_get dec_X1_lastDrum_0 10 rfl) rfl (lv_at hl 2 rfl) ?_
    refine lv_iload_n G.hx G.hb (dcs_get dec_X1_lastDrum_0 11 rfl) rfl (lv_at hl 3 rfl) ?_
    refine lv_iconst (v := (0 : Int32)) G.hx G.hb (dcs_get dec_X1_lastDrum_0 12 rfl) (by decide) ?_
    obtain ⟨v4, h3, hf⟩ := cB_some hf
    refine a_i (k_VN (As := [.int (σ.1 a0 8), .int l2, .int l3, .int (0 : Int32)]) (rest := []) cls10 lb_X10_isAnswer lv_X10_isAnswer nm_922 (C_X10_isAnswer G.2.2.1 a1 (σ.1 a0 8) l2 l3 (0 : Int32) σ h3 ok_a1) ⟨(Nat.le_of_ble_eq_true rfl), (Nat.le_of_ble_eq_true rfl)⟩ G w k_a1.1 k_a1.2 rfl rfl hl.1 (Nat.le_of_ble_eq_true rfl) (dcs_get dec_X1_lastDrum_0 13 rfl) ⟨Nat.le_refl _, Nat.le_refl _⟩) G w (fun H locs w => ?_)
    refine lv_if_ne (tgt := 32) G.hx G.hb (dcs_get dec_X1_lastDrum_0 14 rfl) (by decide) (fun hc => ?_) (fun hc => ?_)
    · rw [if_neg hc] at hf
      refine lv_aload_n G.hx G.hb (dcs_get dec_X1_lastDrum_0 20 rfl) rfl (lv_at hl 1 rfl) ?_
      refine lv_aload_n G.hx G.hb (dcs_get dec_X1_lastDrum_0 21 rfl) rfl (lv_at hl 0 rfl) ?_
      refine r_getiN (k := 8) cls7 fi_7_8.1 fi_7_8.2 nf_119 G w k_a0.1 k_a0.2 (dcs_get dec_X1_lastDrum_0 22 rfl) ?_
      refine lv_iload_n G.hx G.hb (dcs_get dec_X1_lastDrum_0 23 rfl) rfl (lv_at hl 2 rfl) ?_
      refine lv_iload_n G.hx G.hb (dcs_get dec_X1_lastDrum_0 24 rfl) rfl (lv_at hl 3 rfl) ?_
      refine lv_iconst (v := (1 : Int32)) G.hx G.hb (dcs_get dec_X1_lastDrum_0 25 rfl) (by decide) ?_
      obtain ⟨v6, h5, hf⟩ := cB_some hf
      refine a_i (k_VN (As := [.int (σ.1 a0 8), .int l2, .int l3, .int (1 : Int32)]) (rest := []) cls10 lb_X10_isAnswer lv_X10_isAnswer nm_922 (C_X10_isAnswer G.2.2.1 a1 (σ.1 a0 8) l2 l3 (1 : Int32) σ h5 ok_a1) ⟨(Nat.le_of_ble_eq_true rfl), (Nat.le_of_ble_eq_true rfl)⟩ G w k_a1.1 k_a1.2 rfl rfl hl.1 (Nat.le_of_ble_eq_true rfl) (dcs_get dec_X1_lastDrum_0 26 rfl) ⟨Nat.le_refl _, Nat.le_refl _⟩) G w (fun H locs w => ?_)
      refine lv_if_eq (tgt := 50) G.hx G.hb (dcs_get dec_X1_lastDrum_0 27 rfl) (by decide) (fun hc => ?_) (fun hc => ?_)
      · rw [if_pos hc] at hf
        refine lv_iload_n G.hx G.hb (dcs_get dec_X1_lastDrum_0 30 rfl) rfl (lv_at hl 2 rfl) ?_
        refine lv_iload_n G.hx G.hb (dcs_get dec_X1_lastDrum_0 31 rfl) rfl (lv_at hl 3 rfl) ?_
        refine lv_iconst (v := (1 : Int32)) G.hx G.hb (dcs_get dec_X1_lastDrum_0 32 rfl) (by decide) ?_
        obtain ⟨v8, h7, hf⟩ := cB_some hf
        refine a_i (k_S (As := [.int l2, .int l3, .int (1 : Int32)]) (rest := []) lb_X1_codeOf q_926 q_925 (C_X1_codeOf G.2.2.1 l2 l3 (1 : Int32) σ h7 ) ⟨(Nat.le_of_ble_eq_true rfl), (Nat.le_of_ble_eq_true rfl)⟩ G w rfl rfl hl.1 (Nat.le_of_ble_eq_true rfl) (dcs_get dec_X1_lastDrum_0 33 rfl) ⟨Nat.le_refl _, Nat.le_refl _⟩) G w (fun H locs w => ?_)
        exact B_X1_lastDrum_56 v8 σ G hm  hf  w (lv_sub hl [] rfl)
      · rw [if_neg hc] at hf
        refine lv_iconst (v := (-1 : Int32)) G.hx G.hb (dcs_get dec_X1_lastDrum_0 28 rfl) (by decide) ?_
        refine lv_goto (tgt := 56) G.hx G.hb (dcs_get dec_X1_lastDrum_0 29 rfl) (by decide) ?_
        exact B_X1_lastDrum_56 (-1 : Int32) σ G hm  hf  w (lv_sub hl [] rfl)
    · rw [if_pos hc] at hf
      refine lv_iload_n G.hx G.hb (dcs_get dec_X1_lastDrum_0 15 rfl) rfl (lv_at hl 2 rfl) ?_
      refine lv_iload_n G.hx G.hb (dcs_get dec_X1_lastDrum_0 16 rfl) rfl (lv_at hl 3 rfl) ?_
      refine lv_iconst (v := (0 : Int32)) G.hx G.hb (dcs_get dec_X1_lastDrum_0 17 rfl) (by decide) ?_
      obtain ⟨v10, h9, hf⟩ := cB_some hf
      refine a_i (k_S (As := [.int l2, .int l3, .int (0 : Int32)]) (rest := []) lb_X1_codeOf q_926 q_925 (C_X1_codeOf G.2.2.1 l2 l3 (0 : Int32) σ h9 ) ⟨(Nat.le_of_ble_eq_true rfl), (Nat.le_of_ble_eq_true rfl)⟩ G w rfl rfl hl.1 (Nat.le_of_ble_eq_true rfl) (dcs_get dec_X1_lastDrum_0 18 rfl) ⟨Nat.le_refl _, Nat.le_refl _⟩) G w (fun H locs w => ?_)
      have e9 := Option.some.inj hf
      exact r_iret G w hm e9 rfl (dcs_get dec_X1_lastDrum_0 19 rfl)
  · rw [if_pos hc] at hf
    refine lv_iconst (v := (-1 : Int32)) G.hx G.hb (dcs_get dec_X1_lastDrum_0 5 rfl) (by decide) ?_
    have e9 := Option.some.inj hf
    exact r_iret G w hm e9 rfl (dcs_get dec_X1_lastDrum_0 6 rfl)
end
set_option maxRecDepth 100000 in
set_option maxHeartbeats 4000000 in
theorem C_X1_lastDrum {l : Launch} {D : va_G} {ay : Nat → ClassId} {ad : Nat → Nat} (hi : hInj NC ad) (a0 : Nat) (a1 : Nat) (l2 : Int32) (l3 : Int32) (σ : hSt) {r0 : Int32} (hf : F_X1_lastDrum a0 a1 l2 l3 σ = some r0) (ok_a0 : okr kC NC 7 a0 = true) (ok_a1 : okr kC NC 10 a1 = true) : hM l D ay kC NC ad yX1_lastDrum cX1_lastDrum 4 ((some .int)) (rmK 3 65) [.ref (ad a0), .ref (ad a1), .int l2, .int l3] σ (cI D ay kC NC ad r0 σ) := by
  refine hM_in (by decide) hi (Nat.le_of_ble_eq_true rfl) ?_
  intro p e s m below meth c G hm w ls hl
  exact B_X1_lastDrum_0 a0 a1 l2 l3 σ G hm ok_a0 ok_a1 hf w (lv_sub hl [0, 1, 2, 3] rfl)

/-! HillDrums.Loop.seekSecond(LHillDrums$Text;IIJ)V -/
def DL_X1_seekSecond_0 : List (Nat × Instr × Nat) := [(0, .iconst 0, 1), (1, .istore 6, 2), (3, .iload 6, 2), (5, .aload_n 1, 1), (6, .getfield 73, 3), (9, .if_icmp .ge 191, 3), (12, .aload_n 0, 1), (13, .getfield 15, 3), (16, .ifCond .ne 184, 3), (19, .iconst 0, 1), (20, .istore 7, 2), (22, .iload 7, 2), (24, .aload_n 1, 1), (25, .getfield 76, 3), (28, .if_icmp .ge 166, 3), (31, .aload_n 0, 1), (32, .getfield 15, 3), (35, .ifCond .ne 159, 3), (38, .iconst 0, 1), (39, .istore 8, 2), (41, .iload 8, 2), (43, .iconst 2, 1), (44, .if_icmp .ge 144, 3), (47, .aload_n 0, 1), (48, .getfield 15, 3), (51, .ifCond .ne 137, 3), (54, .iload 8, 2), (56, .iconst 1, 1), (57, .if_icmp .ne 7, 3), (60, .iconst 1, 1), (61, .goto 4, 3), (64, .iconst 0, 1), (65, .istore 9, 2), (67, .aload_n 0, 1), (68, .getfield 22, 3), (71, .iload 6, 2), (73, .iload 7, 2), (75, .invokevirtual 42, 3), (78, .ifCond .eq 104, 3), (81, .aload_n 0, 1)]
set_option maxRecDepth 100000 in
theorem dec_X1_seekSecond_0 : dcs cX1_seekSecond DL_X1_seekSecond_0 = true := by decide +kernel
def DL_X1_seekSecond_1 : List (Nat × Instr × Nat) := [(82, .getfield 22, 3), (85, .aload_n 1, 1), (86, .getfield 46, 3), (89, .iload 6, 2), (91, .iload 7, 2), (93, .iload 9, 2), (95, .invokevirtual 49, 3), (98, .ifCond .ne 84, 3), (101, .aload_n 0, 1), (102, .getfield 26, 3), (105, .aload_n 0, 1), (106, .getfield 22, 3), (109, .invokevirtual 53, 3), (112, .aload_n 0, 1), (113, .getfield 26, 3), (116, .iload 6, 2), (118, .iload 7, 2), (120, .iload 9, 2), (122, .lload 4, 2), (124, .iload 6, 2), (126, .invokestatic 38, 3), (129, .invokevirtual 57, 3), (132, .aload_n 0, 1), (133, .getfield 9, 3), (136, .iconst 1, 1), (137, .iload 6, 2), (139, .iload 7, 2), (141, .iload 9, 2), (143, .invokestatic 61, 3), (146, .iastore, 1), (147, .aload_n 0, 1), (148, .getfield 9, 3), (151, .iconst 2, 1), (152, .aload_n 1, 1), (153, .aload_n 0, 1), (154, .getfield 26, 3), (157, .iload_n 2, 1), (158, .iload_n 3, 1), (159, .invokestatic 65, 3), (162, .iastore, 1)]
set_option maxRecDepth 100000 in
theorem dec_X1_seekSecond_1 : dcs cX1_seekSecond DL_X1_seekSecond_1 = true := by decide +kernel
def DL_X1_seekSecond_2 : List (Nat × Instr × Nat) := [(163, .aload_n 0, 1), (164, .aload_n 0, 1), (165, .getfield 9, 3), (168, .iconst 2, 1), (169, .iaload, 1), (170, .iconst (-1), 1), (171, .if_icmp .ne 7, 3), (174, .iconst 0, 1), (175, .goto 4, 3), (178, .iconst 3, 1), (179, .putfield 15, 3), (182, .iinc 8 1, 3), (185, .goto (-144), 3), (188, .iinc 7 1, 3), (191, .goto (-169), 3), (194, .iinc 6 1, 3), (197, .goto (-194), 3), (200, .return_, 1)]
set_option maxRecDepth 100000 in
theorem dec_X1_seekSecond_2 : dcs cX1_seekSecond DL_X1_seekSecond_2 = true := by decide +kernel
theorem lb_X1_seekSecond : lkB yX1_seekSecond cX1_seekSecond 10 (none) 4 := ⟨q_934, q_12, ⟨by decide, by decide⟩, by decide +kernel⟩
theorem lv_X1_seekSecond : lkV yX1_seekSecond := ⟨q_933, qs_60⟩
def F_X1_seekSecond_182 (a0 : Nat) (a1 : Nat) (l2 : Int32) (l3 : Int32) (l4 : Int64) (l6 : Int32) (l7 : Int32) (l8 : Int32) (σ : hSt) : Option ((Int32 × hSt) ⊕ ((Int32 × hSt) ⊕ ((Int32 × hSt) ⊕ (hSt)))) :=
cL (l8 + (1 : Int32)) fun v1 =>
some (.inl (v1, σ))
def F_X1_seekSecond_179 (a0 : Nat) (a1 : Nat) (l2 : Int32) (l3 : Int32) (l4 : Int64) (l6 : Int32) (l7 : Int32) (l8 : Int32) (s0 : Nat) (s1 : Int32) (σ : hSt) : Option ((Int32 × hSt) ⊕ ((Int32 × hSt) ⊕ ((Int32 × hSt) ⊕ (hSt)))) :=
cL (uI σ s0 1 s1) fun σ2 =>
F_X1_seekSecond_182 a0 a1 l2 l3 l4 l6 l7 l8 σ2
def F_X1_seekSecond_65 (a0 : Nat) (a1 : Nat) (l2 : Int32) (l3 : Int32) (l4 : Int64) (l6 : Int32) (l7 : Int32) (l8 : Int32) (s0 : Int32) (σ : hSt) : Option ((Int32 × hSt) ⊕ ((Int32 × hSt) ⊕ ((Int32 × hSt) ⊕ (hSt)))) :=
cR (σ.2.2 a0 2) (okr kC NC 10) fun z3 =>
(F_X10_isAble z3 l6 l7 σ).bind fun v5 =>
if v5 = 0 then (
F_X1_seekSecond_182 a0 a1 l2 l3 l4 l6 l7 l8 σ) else (
cR (σ.2.2 a0 2) (okr kC NC 10) fun z6 =>
(F_X10_isAnswer z6 (σ.1 a1 8) l6 l7 s0 σ).bind fun v8 =>
if v8 = 0 then (
cR (σ.2.2 a0 3) (okr kC NC 10) fun z9 =>
cR (σ.2.2 a0 2) (okr kC NC 10) fun z10 =>
(F_X10_copy z9 z10 σ).bind fun σ12 =>
cR (σ12.2.2 a0 3) (okr kC NC 10) fun z13 =>
(F_X11_hearersOf l4 l6 σ12).bind fun v15 =>
(F_X10_drumByDay z13 l6 l7 s0 v15 σ12).bind fun σ17 =>
cR (σ17.2.2 a0 0) (okr kC NC 101) fun z18 =>
(F_X1_codeOf l6 l7 s0 σ17).bind fun v20 =>
cG (inb (1 : Int32) (kC z18).2) <|
cL (uI σ17 z18 (1 : Int32).toNatClampNeg v20) fun σ22 =>
cR (σ22.2.2 a0 0) (okr kC NC 101) fun z23 =>
cR (σ22.2.2 a0 3) (okr kC NC 10) fun z24 =>
(F_X1_lastDrum a1 z24 l2 l3 σ22).bind fun v26 =>
cG (inb (2 : Int32) (kC z23).2) <|
cL (uI σ22 z23 (2 : Int32).toNatClampNeg v26) fun σ28 =>
cR (σ28.2.2 a0 0) (okr kC NC 101) fun z29 =>
cG (inb (2 : Int32) (kC z29).2) <|
if (σ28.1 z29 (2 : Int32).toNatClampNeg) = (-1 : Int32) then (
F_X1_seekSecond_179 a0 a1 l2 l3 l4 l6 l7 l8 a0 (0 : Int32) σ28) else (
F_X1_seekSecond_179 a0 a1 l2 l3 l4 l6 l7 l8 a0 (3 : Int32) σ28)) else (
F_X1_seekSecond_182 a0 a1 l2 l3 l4 l6 l7 l8 σ))
def F_X1_seekSecond_188 (a0 : Nat) (a1 : Nat) (l2 : Int32) (l3 : Int32) (l4 : Int64) (l6 : Int32) (l7 : Int32) (σ : hSt) : Option ((Int32 × hSt) ⊕ ((Int32 × hSt) ⊕ (hSt))) :=
cL (l7 + (1 : Int32)) fun v31 =>
some (.inl (v31, σ))
def F_X1_seekSecond_41b (a0 : Nat) (a1 : Nat) (l2 : Int32) (l3 : Int32) (l4 : Int64) (l6 : Int32) (l7 : Int32) (l8 : Int32) (σ : hSt) : Option ((Int32 × hSt) ⊕ ((Int32 × hSt) ⊕ ((Int32 × hSt) ⊕ (hSt)))) :=
if (2 : Int32) ≤ l8 then (
(F_X1_seekSecond_188 a0 a1 l2 l3 l4 l6 l7 σ).map (fun x => .inr (x))) else (
if (σ.1 a0 1) = 0 then (
if l8 = (1 : Int32) then (
F_X1_seekSecond_65 a0 a1 l2 l3 l4 l6 l7 l8 (1 : Int32) σ) else (
F_X1_seekSecond_65 a0 a1 l2 l3 l4 l6 l7 l8 (0 : Int32) σ)) else (
(F_X1_seekSecond_188 a0 a1 l2 l3 l4 l6 l7 σ).map (fun x => .inr (x))))
def S_X1_seekSecond_41 (a0 : Nat) (a1 : Nat) (l2 : Int32) (l3 : Int32) (l4 : Int64) (l6 : Int32) (l7 : Int32) (v : Int32 × hSt) : Option ((Int32 × hSt) ⊕ ((Int32 × hSt) ⊕ ((Int32 × hSt) ⊕ (hSt)))) := F_X1_seekSecond_41b a0 a1 l2 l3 l4 l6 l7 v.1 v.2
def F_X1_seekSecond_41 (a0 : Nat) (a1 : Nat) (l2 : Int32) (l3 : Int32) (l4 : Int64) (l6 : Int32) (l7 : Int32) (l8 : Int32) (σ : hSt) : Option ((Int32 × hSt) ⊕ ((Int32 × hSt) ⊕ (hSt))) := lp (S_X1_seekSecond_41 a0 a1 l2 l3 l4 l6 l7) fuel (l8, σ)
def F_X1_seekSecond_194 (a0 : Nat) (a1 : Nat) (l2 : Int32) (l3 : Int32) (l4 : Int64) (l6 : Int32) (σ : hSt) : Option ((Int32 × hSt) ⊕ (hSt)) :=
cL (l6 + (1 : Int32)) fun v32 =>
some (.inl (v32, σ))
def F_X1_seekSecond_22b (a0 : Nat) (a1 : Nat) (l2 : Int32) (l3 : Int32) (l4 : Int64) (l6 : Int32) (l7 : Int32) (σ : hSt) : Option ((Int32 × hSt) ⊕ ((Int32 × hSt) ⊕ (hSt))) :=
if (σ.1 a1 3) ≤ l7 then (
(F_X1_seekSecond_194 a0 a1 l2 l3 l4 l6 σ).map (fun x => .inr (x))) else (
if (σ.1 a0 1) = 0 then (
F_X1_seekSecond_41 a0 a1 l2 l3 l4 l6 l7 (0 : Int32) σ) else (
(F_X1_seekSecond_194 a0 a1 l2 l3 l4 l6 σ).map (fun x => .inr (x))))
def S_X1_seekSecond_22 (a0 : Nat) (a1 : Nat) (l2 : Int32) (l3 : Int32) (l4 : Int64) (l6 : Int32) (v : Int32 × hSt) : Option ((Int32 × hSt) ⊕ ((Int32 × hSt) ⊕ (hSt))) := F_X1_seekSecond_22b a0 a1 l2 l3 l4 l6 v.1 v.2
def F_X1_seekSecond_22 (a0 : Nat) (a1 : Nat) (l2 : Int32) (l3 : Int32) (l4 : Int64) (l6 : Int32) (l7 : Int32) (σ : hSt) : Option ((Int32 × hSt) ⊕ (hSt)) := lp (S_X1_seekSecond_22 a0 a1 l2 l3 l4 l6) fuel (l7, σ)
def F_X1_seekSecond_200  (σ : hSt) : Option (hSt) :=
some (σ)
def F_X1_seekSecond_3b (a0 : Nat) (a1 : Nat) (l2 : Int32) (l3 : Int32) (l4 : Int64) (l6 : Int32) (σ : hSt) : Option ((Int32 × hSt) ⊕ (hSt)) :=
if (σ.1 a1 0) ≤ l6 then (
(F_X1_seekSecond_200  σ).map (fun x => .inr (x))) else (
if (σ.1 a0 1) = 0 then (
F_X1_seekSecond_22 a0 a1 l2 l3 l4 l6 (0 : Int32) σ) else (
(F_X1_seekSecond_200  σ).map (fun x => .inr (x))))
def S_X1_seekSecond_3 (a0 : Nat) (a1 : Nat) (l2 : Int32) (l3 : Int32) (l4 : Int64) (v : Int32 × hSt) : Option ((Int32 × hSt) ⊕ (hSt)) := F_X1_seekSecond_3b a0 a1 l2 l3 l4 v.1 v.2
def F_X1_seekSecond_3 (a0 : Nat) (a1 : Nat) (l2 : Int32) (l3 : Int32) (l4 : Int64) (l6 : Int32) (σ : hSt) : Option (hSt) := lp (S_X1_seekSecond_3 a0 a1 l2 l3 l4) fuel (l6, σ)
def F_X1_seekSecond (a0 : Nat) (a1 : Nat) (l2 : Int32) (l3 : Int32) (l4 : Int64) (σ : hSt) : Option (hSt) :=
F_X1_seekSecond_3 a0 a1 l2 l3 l4 (0 : Int32) σ
section
variable {p : Program} {l : Launch} {e : Env} {s : State} {m : MethodId} {args : Array Value} {below : List Frame} {meth : Method} {c : Code} {D : va_G} {ay : Nat → ClassId} {ad : Nat → Nat}
set_option maxRecDepth 100000 in
set_option maxHeartbeats 4000000 in
theorem B_X1_seekSecond_182 {H : Heap} {locs : List Loc} {ls : Array Slot} {σ0 : hSt} {o : (Int32 × hSt) ⊕ ((Int32 × hSt) ⊕ ((Int32 × hSt) ⊕ (hSt)))} (a0 : Nat) (a1 : Nat) (l2 : Int32) (l3 : Int32) (l4 : Int64) (l6 : Int32) (l7 : Int32) (l8 : Int32) (σ : hSt) (G : Gx p m c cX1_seekSecond 10 s args RX1 D ay NC ad (aN NC ad)) (hm : meth.sig.returnType = none ∧ meth.locks = false) (ok_a0 : okr kC NC 1 a0 = true) (ok_a1 : okr kC NC 7 a1 = true) (hf : F_X1_seekSecond_182 a0 a1 l2 l3 l4 l6 l7 l8 σ = some o) (hb0 : ∀ (v : Int32 × hSt), o = .inr (.inr (.inl v)) → ∀ (H : Heap) (locs : List Loc) (ls : Array Slot), Wd D ay kC NC ad (aN NC ad) s v.2 H locs → lv_has ls 10 [(0, .ref (ad a0)), (1, .ref (ad a1)), (2, .int l2), (3, .int l3), (4, .long l4), (6, .int v.1)] → W p l e (rmK 4 88) s m args below meth c H locs 0 0 (MQ below (cV D ay kC NC ad σ0) args s 0 0 (aN NC ad)) (F0 m 3 ls [])) (hb1 : ∀ (v : Int32 × hSt), o = .inr (.inl v) → ∀ (H : Heap) (locs : List Loc) (ls : Array Slot), Wd D ay kC NC ad (aN NC ad) s v.2 H locs → lv_has ls 10 [(0, .ref (ad a0)), (1, .ref (ad a1)), (2, .int l2), (3, .int l3), (4, .long l4), (6, .int l6), (7, .int v.1)] → W p l e (rmK 4 88) s m args below meth c H locs 0 0 (MQ below (cV D ay kC NC ad σ0) args s 0 0 (aN NC ad)) (F0 m 22 ls [])) (hb2 : ∀ (v : Int32 × hSt), o = .inl v → ∀ (H : Heap) (locs : List Loc) (ls : Array Slot), Wd D ay kC NC ad (aN NC ad) s v.2 H locs → lv_has ls 10 [(0, .ref (ad a0)), (1, .ref (ad a1)), (2, .int l2), (3, .int l3), (4, .long l4), (6, .int l6), (7, .int l7), (8, .int v.1)] → W p l e (rmK 4 88) s m args below meth c H locs 0 0 (MQ below (cV D ay kC NC ad σ0) args s 0 0 (aN NC ad)) (F0 m 41 ls [])) (hr : ∀ x, o = .inr (.inr (.inr (x))) → x = σ0) (w : Wd D ay kC NC ad (aN NC ad) s σ H locs) (hl : lv_has ls 10 [(0, .ref (ad a0)), (1, .ref (ad a1)), (2, .int l2), (3, .int l3), (4, .long l4), (6, .int l6), (7, .int l7), (8, .int l8)]) : W p l e (rmK 4 88) s m args below meth c H locs 0 0 (MQ below (cV D ay kC NC ad σ0) args s 0 0 (aN NC ad)) (F0 m 182 ls []) := by
  have k_a0 := okr_in ok_a0
  have k_a1 := okr_in ok_a1
  unfold F_X1_seekSecond_182 at hf
  obtain ⟨v1, e_v1, hf⟩ := cL_some hf
  refine lv_iinc (v := v1) (lv' := [(8, .int v1), (0, .ref (ad a0)), (1, .ref (ad a1)), (2, .int l2), (3, .int l3), (4, .long l4), (6, .int l6), (7, .int l7)]) G.hx G.hb (dcs_get dec_X1_seekSecond_2 11 rfl) hl (k := 7) rfl (by rw [e_v1]; rfl) (by decide) rfl (fun ls hl => ?_)
  refine lv_goto (tgt := 41) G.hx G.hb (dcs_get dec_X1_seekSecond_2 12 rfl) (by decide) ?_
  exact hb2 _ (Option.some.inj hf).symm _ _ _ w (lv_sub hl [1, 2, 3, 4, 5, 6, 7, 0] rfl)
set_option maxRecDepth 100000 in
set_option maxHeartbeats 4000000 in
theorem B_X1_seekSecond_179 {H : Heap} {locs : List Loc} {ls : Array Slot} {σ0 : hSt} {o : (Int32 × hSt) ⊕ ((Int32 × hSt) ⊕ ((Int32 × hSt) ⊕ (hSt)))} (a0 : Nat) (a1 : Nat) (l2 : Int32) (l3 : Int32) (l4 : Int64) (l6 : Int32) (l7 : Int32) (l8 : Int32) (s0 : Nat) (s1 : Int32) (σ : hSt) (G : Gx p m c cX1_seekSecond 10 s args RX1 D ay NC ad (aN NC ad)) (hm : meth.sig.returnType = none ∧ meth.locks = false) (ok_a0 : okr kC NC 1 a0 = true) (ok_a1 : okr kC NC 7 a1 = true) (ok_s0 : okr kC NC 1 s0 = true) (hf : F_X1_seekSecond_179 a0 a1 l2 l3 l4 l6 l7 l8 s0 s1 σ = some o) (hb0 : ∀ (v : Int32 × hSt), o = .inr (.inr (.inl v)) → ∀ (H : Heap) (locs : List Loc) (ls : Array Slot), Wd D ay kC NC ad (aN NC ad) s v.2 H locs → lv_has ls 10 [(0, .ref (ad a0)), (1, .ref (ad a1)), (2, .int l2), (3, .int l3), (4, .long l4), (6, .int v.1)] → W p l e (rmK 4 88) s m args below meth c H locs 0 0 (MQ below (cV D ay kC NC ad σ0) args s 0 0 (aN NC ad)) (F0 m 3 ls [])) (hb1 : ∀ (v : Int32 × hSt), o = .inr (.inl v) → ∀ (H : Heap) (locs : List Loc) (ls : Array Slot), Wd D ay kC NC ad (aN NC ad) s v.2 H locs → lv_has ls 10 [(0, .ref (ad a0)), (1, .ref (ad a1)), (2, .int l2), (3, .int l3), (4, .long l4), (6, .int l6), (7, .int v.1)] → W p l e (rmK 4 88) s m args below meth c H locs 0 0 (MQ below (cV D ay kC NC ad σ0) args s 0 0 (aN NC ad)) (F0 m 22 ls [])) (hb2 : ∀ (v : Int32 × hSt), o = .inl v → ∀ (H : Heap) (locs : List Loc) (ls : Array Slot), Wd D ay kC NC ad (aN NC ad) s v.2 H locs → lv_has ls 10 [(0, .ref (ad a0)), (1, .ref (ad a1)), (2, .int l2), (3, .int l3), (4, .long l4), (6, .int l6), (7, .int l7), (8, .int v.1)] → W p l e (rmK 4 88) s m args below meth c H locs 0 0 (MQ below (cV D ay kC NC ad σ0) args s 0 0 (aN NC ad)) (F0 m 41 ls [])) (hr : ∀ x, o = .inr (.inr (.inr (x))) → x = σ0) (w : Wd D ay kC NC ad (aN NC ad) s σ H locs) (hl : lv_has ls 10 [(0, .ref (ad a0)), (1, .ref (ad a1)), (2, .int l2), (3, .int l3), (4, .long l4), (6, .int l6), (7, .int l7), (8, .int l8)]) : W p l e (rmK 4 88) s m args below meth c H locs 0 0 (MQ below (cV D ay kC NC ad σ0) args s 0 0 (aN NC ad)) (F0 m 179 ls [.int s1, .ref (ad s0)]) := by
  have k_a0 := okr_in ok_a0
  have k_a1 := okr_in ok_a1
  have k_s0 := okr_in ok_s0
  unfold F_X1_seekSecond_179 at hf
  obtain ⟨σ2, e_σ2, hf⟩ := cL_some hf
  refine r_puti (k := 1) cls1 ct1 fi_1_1.1 fi_1_1.2 fp_1_1.1 fp_1_1.2 q_352 rfl rfl G w k_s0.1 k_s0.2 (dcs_get dec_X1_seekSecond_2 10 rfl) (fun H locs w => ?_)
  have w := Wd.nm e_σ2 w
  exact B_X1_seekSecond_182 a0 a1 l2 l3 l4 l6 l7 l8 σ2 G hm ok_a0 ok_a1 hf hb0 hb1 hb2 hr w (lv_sub hl [0, 1, 2, 3, 4, 5, 6, 7] rfl)
set_option maxRecDepth 100000 in
set_option maxHeartbeats 4000000 in
theorem B_X1_seekSecond_65 {H : Heap} {locs : List Loc} {ls : Array Slot} {σ0 : hSt} {o : (Int32 × hSt) ⊕ ((Int32 × hSt) ⊕ ((Int32 × hSt) ⊕ (hSt)))} (a0 : Nat) (a1 : Nat) (l2 : Int32) (l3 : Int32) (l4 : Int64) (l6 : Int32) (l7 : Int32) (l8 : Int32) (s0 : Int32) (σ : hSt) (G : Gx p m c cX1_seekSecond 10 s args RX1 D ay NC ad (aN NC ad)) (hm : meth.sig.returnType = none ∧ meth.locks = false) (ok_a0 : okr kC NC 1 a0 = true) (ok_a1 : okr kC NC 7 a1 = true) (hf : F_X1_seekSecond_65 a0 a1 l2 l3 l4 l6 l7 l8 s0 σ = some o) (hb0 : ∀ (v : Int32 × hSt), o = .inr (.inr (.inl v)) → ∀ (H : Heap) (locs : List Loc) (ls : Array Slot), Wd D ay kC NC ad (aN NC ad) s v.2 H locs → lv_has ls 10 [(0, .ref (ad a0)), (1, .ref (ad a1)), (2, .int l2), (3, .int l3), (4, .long l4), (6, .int v.1)] → W p l e (rmK 4 88) s m args below meth c H locs 0 0 (MQ below (cV D ay kC NC ad σ0) args s 0 0 (aN NC ad)) (F0 m 3 ls [])) (hb1 : ∀ (v : Int32 × hSt), o = .inr (.inl v) → ∀ (H : Heap) (locs : List Loc) (ls : Array Slot), Wd D ay kC NC ad (aN NC ad) s v.2 H locs → lv_has ls 10 [(0, .ref (ad a0)), (1, .ref (ad a1)), (2, .int l2), (3, .int l3), (4, .long l4), (6, .int l6), (7, .int v.1)] → W p l e (rmK 4 88) s m args below meth c H locs 0 0 (MQ below (cV D ay kC NC ad σ0) args s 0 0 (aN NC ad)) (F0 m 22 ls [])) (hb2 : ∀ (v : Int32 × hSt), o = .inl v → ∀ (H : Heap) (locs : List Loc) (ls : Array Slot), Wd D ay kC NC ad (aN NC ad) s v.2 H locs → lv_has ls 10 [(0, .ref (ad a0)), (1, .ref (ad a1)), (2, .int l2), (3, .int l3), (4, .long l4), (6, .int l6), (7, .int l7), (8, .int v.1)] → W p l e (rmK 4 88) s m args below meth c H locs 0 0 (MQ below (cV D ay kC NC ad σ0) args s 0 0 (aN NC ad)) (F0 m 41 ls [])) (hr : ∀ x, o = .inr (.inr (.inr (x))) → x = σ0) (w : Wd D ay kC NC ad (aN NC ad) s σ H locs) (hl : lv_has ls 10 [(0, .ref (ad a0)), (1, .ref (ad a1)), (2, .int l2), (3, .int l3), (4, .long l4), (6, .int l6), (7, .int l7), (8, .int l8)]) : W p l e (rmK 4 88) s m args below meth c H locs 0 0 (MQ below (cV D ay kC NC ad σ0) args s 0 0 (aN NC ad)) (F0 m 65 ls [.int s0]) := by
  have k_a0 := okr_in ok_a0
  have k_a1 := okr_in ok_a1
  unfold F_X1_seekSecond_65 at hf
  refine lv_istore (lv' := [(9, .int s0), (0, .ref (ad a0)), (1, .ref (ad a1)), (2, .int l2), (3, .int l3), (4, .long l4), (6, .int l6), (7, .int l7), (8, .int l8)]) G.hx G.hb (dcs_get dec_X1_seekSecond_0 32 rfl) hl (by decide) rfl (fun ls hl => ?_)
  refine lv_aload_n G.hx G.hb (dcs_get dec_X1_seekSecond_0 33 rfl) rfl (lv_at hl 1 rfl) ?_
  obtain ⟨z3, e_z3, ok_z3, hf⟩ := cR_some hf
  have k_z3 := okr_in ok_z3
  refine r_getr (k := 2) cls1 fi_1_2.1 fi_1_2.2 q_354 G w k_a0.1 k_a0.2 e_z3 (dcs_get dec_X1_seekSecond_0 34 rfl) ?_
  refine lv_iload G.hx G.hb (dcs_get dec_X1_seekSecond_0 35 rfl) (lv_at hl 6 rfl) ?_
  refine lv_iload G.hx G.hb (dcs_get dec_X1_seekSecond_0 36 rfl) (lv_at hl 7 rfl) ?_
  obtain ⟨v5, h4, hf⟩ := cB_some hf
  refine a_i (k_VN (As := [.int l6, .int l7]) (rest := []) cls10 lb_X10_isAble lv_X10_isAble nm_921 (C_X10_isAble G.2.2.1 z3 l6 l7 σ h4 ok_z3) ⟨(Nat.le_of_ble_eq_true rfl), (Nat.le_of_ble_eq_true rfl)⟩ G w k_z3.1 k_z3.2 rfl rfl hl.1 (Nat.le_of_ble_eq_true rfl) (dcs_get dec_X1_seekSecond_0 37 rfl) ⟨Nat.le_refl _, Nat.le_refl _⟩) G w (fun H locs w => ?_)
  refine lv_if_eq (tgt := 182) G.hx G.hb (dcs_get dec_X1_seekSecond_0 38 rfl) (by decide) (fun hc => ?_) (fun hc => ?_)
  · rw [if_pos hc] at hf
    exact B_X1_seekSecond_182 a0 a1 l2 l3 l4 l6 l7 l8 σ G hm ok_a0 ok_a1 hf hb0 hb1 hb2 hr w (lv_sub hl [1, 2, 3, 4, 5, 6, 7, 8] rfl)
  · rw [if_neg hc] at hf
    refine lv_aload_n G.hx G.hb (dcs_get dec_X1_seekSecond_0 39 rfl) rfl (lv_at hl 1 rfl) ?_
    obtain ⟨z6, e_z6, ok_z6, hf⟩ := cR_some hf
    have k_z6 := okr_in ok_z6
    refine r_getr (k := 2) cls1 fi_1_2.1 fi_1_2.2 q_354 G w k_a0.1 k_a0.2 e_z6 (dcs_get dec_X1_seekSecond_1 0 rfl) ?_
    refine lv_aload_n G.hx G.hb (dcs_get dec_X1_seekSecond_1 1 rfl) rfl (lv_at hl 2 rfl) ?_
    refine r_getiN (k := 8) cls7 fi_7_8.1 fi_7_8.2 nf_119 G w k_a1.1 k_a1.2 (dcs_get dec_X1_seekSecond_1 2 rfl) ?_
    refine lv_iload G.hx G.hb (dcs_get dec_X1_seekSecond_1 3 rfl) (lv_at hl 6 rfl) ?_
    refine lv_iload G.hx G.hb (dcs_get dec_X1_seekSecond_1 4 rfl) (lv_at hl 7 rfl) ?_
    refine lv_iload G.hx G.hb (dcs_get dec_X1_seekSecond_1 5 rfl) (lv_at hl 0 rfl) ?_
    obtain ⟨v8, h7, hf⟩ := cB_some hf
    refine a_i (k_VN (As := [.int (σ.1 a1 8), .int l6, .int l7, .int s0]) (rest := []) cls10 lb_X10_isAnswer lv_X10_isAnswer nm_922 (C_X10_isAnswer G.2.2.1 z6 (σ.1 a1 8) l6 l7 s0 σ h7 ok_z6) ⟨(Nat.le_of_ble_eq_true rfl), (Nat.le_of_ble_eq_true rfl)⟩ G w k_z6.1 k_z6.2 rfl rfl hl.1 (Nat.le_of_ble_eq_true rfl) (dcs_get dec_X1_seekSecond_1 6 rfl) ⟨Nat.le_refl _, Nat.le_refl _⟩) G w (fun H locs w => ?_)
    refine lv_if_ne (tgt := 182) G.hx G.hb (dcs_get dec_X1_seekSecond_1 7 rfl) (by decide) (fun hc => ?_) (fun hc => ?_)
    · rw [if_neg hc] at hf
      exact B_X1_seekSecond_182 a0 a1 l2 l3 l4 l6 l7 l8 σ G hm ok_a0 ok_a1 hf hb0 hb1 hb2 hr w (lv_sub hl [1, 2, 3, 4, 5, 6, 7, 8] rfl)
    · rw [if_pos hc] at hf
      refine lv_aload_n G.hx G.hb (dcs_get dec_X1_seekSecond_1 8 rfl) rfl (lv_at hl 1 rfl) ?_
      obtain ⟨z9, e_z9, ok_z9, hf⟩ := cR_some hf
      have k_z9 := okr_in ok_z9
      refine r_getr (k := 3) cls1 fi_1_3.1 fi_1_3.2 q_355 G w k_a0.1 k_a0.2 e_z9 (dcs_get dec_X1_seekSecond_1 9 rfl) ?_
      refine lv_aload_n G.hx G.hb (dcs_get dec_X1_seekSecond_1 10 rfl) rfl (lv_at hl 1 rfl) ?_
      obtain ⟨z10, e_z10, ok_z10, hf⟩ := cR_some hf
      have k_z10 := okr_in ok_z10
      refine r_getr (k := 2) cls1 fi_1_2.1 fi_1_2.2 q_354 G w k_a0.1 k_a0.2 e_z10 (dcs_get dec_X1_seekSecond_1 11 rfl) ?_
      obtain ⟨σ12, h11, hf⟩ := cB_some hf
      refine a_v (k_VN (As := [.ref (ad z10)]) (rest := []) cls10 lb_X10_copy lv_X10_copy nm_923 (C_X10_copy G.2.2.1 z9 z10 σ h11 ok_z9 ok_z10) ⟨(Nat.le_of_ble_eq_true rfl), (Nat.le_of_ble_eq_true rfl)⟩ G w k_z9.1 k_z9.2 rfl rfl hl.1 (Nat.le_of_ble_eq_true rfl) (dcs_get dec_X1_seekSecond_1 12 rfl) ⟨Nat.le_refl _, Nat.le_refl _⟩) G w (fun H locs w => ?_)
      refine lv_aload_n G.hx G.hb (dcs_get dec_X1_seekSecond_1 13 rfl) rfl (lv_at hl 1 rfl) ?_
      obtain ⟨z13, e_z13, ok_z13, hf⟩ := cR_some hf
      have k_z13 := okr_in ok_z13
      refine r_getr (k := 3) cls1 fi_1_3.1 fi_1_3.2 q_355 G w k_a0.1 k_a0.2 e_z13 (dcs_get dec_X1_seekSecond_1 14 rfl) ?_
      refine lv_iload G.hx G.hb (dcs_get dec_X1_seekSecond_1 15 rfl) (lv_at hl 6 rfl) ?_
      refine lv_iload G.hx G.hb (dcs_get dec_X1_seekSecond_1 16 rfl) (lv_at hl 7 rfl) ?_
      refine lv_iload G.hx G.hb (dcs_get dec_X1_seekSecond_1 17 rfl) (lv_at hl 0 rfl) ?_
      refine lv_lload G.hx G.hb (dcs_get dec_X1_seekSecond_1 18 rfl) (lv_at hl 5 rfl) ?_
      refine lv_iload G.hx G.hb (dcs_get dec_X1_seekSecond_1 19 rfl) (lv_at hl 6 rfl) ?_
      obtain ⟨v15, h14, hf⟩ := cB_some hf
      refine a_i (k_SN (As := [.long l4, .int l6]) (rest := [.int s0, .int l7, .int l6, .ref (ad z13)]) lb_X11_hearersOf q_757 nm_920 (C_X11_hearersOf G.2.2.1 l4 l6 σ12 h14 ) ⟨(Nat.le_of_ble_eq_true rfl), (Nat.le_of_ble_eq_true rfl)⟩ G w rfl rfl hl.1 (Nat.le_of_ble_eq_true rfl) (dcs_get dec_X1_seekSecond_1 20 rfl) ⟨Nat.le_refl _, Nat.le_refl _⟩) G w (fun H locs w => ?_)
      obtain ⟨σ17, h16, hf⟩ := cB_some hf
      refine a_v (k_VN (As := [.int l6, .int l7, .int s0, .int v15]) (rest := []) cls10 lb_X10_drumByDay lv_X10_drumByDay nm_924 (C_X10_drumByDay G.2.2.1 z13 l6 l7 s0 v15 σ12 h16 ok_z13) ⟨(Nat.le_of_ble_eq_true rfl), (Nat.le_of_ble_eq_true rfl)⟩ G w k_z13.1 k_z13.2 rfl rfl hl.1 (Nat.le_of_ble_eq_true rfl) (dcs_get dec_X1_seekSecond_1 21 rfl) ⟨Nat.le_refl _, Nat.le_refl _⟩) G w (fun H locs w => ?_)
      refine lv_aload_n G.hx G.hb (dcs_get dec_X1_seekSecond_1 22 rfl) rfl (lv_at hl 1 rfl) ?_
      obtain ⟨z18, e_z18, ok_z18, hf⟩ := cR_some hf
      have k_z18 := okr_in ok_z18
      refine r_getr (k := 0) cls1 fi_1_0.1 fi_1_0.2 q_350 G w k_a0.1 k_a0.2 e_z18 (dcs_get dec_X1_seekSecond_1 23 rfl) ?_
      refine lv_iconst (v := (1 : Int32)) G.hx G.hb (dcs_get dec_X1_seekSecond_1 24 rfl) (by decide) ?_
      refine lv_iload G.hx G.hb (dcs_get dec_X1_seekSecond_1 25 rfl) (lv_at hl 6 rfl) ?_
      refine lv_iload G.hx G.hb (dcs_get dec_X1_seekSecond_1 26 rfl) (lv_at hl 7 rfl) ?_
      refine lv_iload G.hx G.hb (dcs_get dec_X1_seekSecond_1 27 rfl) (lv_at hl 0 rfl) ?_
      obtain ⟨v20, h19, hf⟩ := cB_some hf
      refine a_i (k_S (As := [.int l6, .int l7, .int s0]) (rest := [.int (1 : Int32), .ref (ad z18)]) lb_X1_codeOf q_926 q_925 (C_X1_codeOf G.2.2.1 l6 l7 s0 σ17 h19 ) ⟨(Nat.le_of_ble_eq_true rfl), (Nat.le_of_ble_eq_true rfl)⟩ G w rfl rfl hl.1 (Nat.le_of_ble_eq_true rfl) (dcs_get dec_X1_seekSecond_1 28 rfl) ⟨Nat.le_refl _, Nat.le_refl _⟩) G w (fun H locs w => ?_)
      obtain ⟨h21, hf⟩ := cG_some hf
      obtain ⟨σ22, e_σ22, hf⟩ := cL_some hf
      refine r_iast G w k_z18.1 k_z18.2 h21 (dcs_get dec_X1_seekSecond_1 29 rfl) (fun H locs w => ?_)
      have w := Wd.nm e_σ22 w
      refine lv_aload_n G.hx G.hb (dcs_get dec_X1_seekSecond_1 30 rfl) rfl (lv_at hl 1 rfl) ?_
      obtain ⟨z23, e_z23, ok_z23, hf⟩ := cR_some hf
      have k_z23 := okr_in ok_z23
      refine r_getr (k := 0) cls1 fi_1_0.1 fi_1_0.2 q_350 G w k_a0.1 k_a0.2 e_z23 (dcs_get dec_X1_seekSecond_1 31 rfl) ?_
      refine lv_iconst (v := (2 : Int32)) G.hx G.hb (dcs_get dec_X1_seekSecond_1 32 rfl) (by decide) ?_
      refine lv_aload_n G.hx G.hb (dcs_get dec_X1_seekSecond_1 33 rfl) rfl (lv_at hl 2 rfl) ?_
      refine lv_aload_n G.hx G.hb (dcs_get dec_X1_seekSecond_1 34 rfl) rfl (lv_at hl 1 rfl) ?_
      obtain ⟨z24, e_z24, ok_z24, hf⟩ := cR_some hf
      have k_z24 := okr_in ok_z24
      refine r_getr (k := 3) cls1 fi_1_3.1 fi_1_3.2 q_355 G w k_a0.1 k_a0.2 e_z24 (dcs_get dec_X1_seekSecond_1 35 rfl) ?_
      refine lv_iload_n G.hx G.hb (dcs_get dec_X1_seekSecond_1 36 rfl) rfl (lv_at hl 3 rfl) ?_
      refine lv_iload_n G.hx G.hb (dcs_get dec_X1_seekSecond_1 37 rfl) rfl (lv_at hl 4 rfl) ?_
      obtain ⟨v26, h25, hf⟩ := cB_some hf
      refine a_i (k_S (As := [.ref (ad a1), .ref (ad z24), .int l2, .int l3]) (rest := [.int (2 : Int32), .ref (ad z23)]) lb_X1_lastDrum q_929 q_928 (C_X1_lastDrum G.2.2.1 a1 z24 l2 l3 σ22 h25 ok_a1 ok_z24) ⟨(Nat.le_of_ble_eq_true rfl), (Nat.le_of_ble_eq_true rfl)⟩ G w rfl rfl hl.1 (Nat.le_of_ble_eq_true rfl) (dcs_get dec_X1_seekSecond_1 38 rfl) ⟨Nat.le_refl _, Nat.le_refl _⟩) G w (fun H locs w => ?_)
      obtain ⟨h27, hf⟩ := cG_some hf
      obtain ⟨σ28, e_σ28, hf⟩ := cL_some hf
      refine r_iast G w k_z23.1 k_z23.2 h27 (dcs_get dec_X1_seekSecond_1 39 rfl) (fun H locs w => ?_)
      have w := Wd.nm e_σ28 w
      refine lv_aload_n G.hx G.hb (dcs_get dec_X1_seekSecond_2 0 rfl) rfl (lv_at hl 1 rfl) ?_
      refine lv_aload_n G.hx G.hb (dcs_get dec_X1_seekSecond_2 1 rfl) rfl (lv_at hl 1 rfl) ?_
      obtain ⟨z29, e_z29, ok_z29, hf⟩ := cR_some hf
      have k_z29 := okr_in ok_z29
      refine r_getr (k := 0) cls1 fi_1_0.1 fi_1_0.2 q_350 G w k_a0.1 k_a0.2 e_z29 (dcs_get dec_X1_seekSecond_2 2 rfl) ?_
      refine lv_iconst (v := (2 : Int32)) G.hx G.hb (dcs_get dec_X1_seekSecond_2 3 rfl) (by decide) ?_
      obtain ⟨h30, hf⟩ := cG_some hf
      refine r_iald G w k_z29.1 k_z29.2 h30 (dcs_get dec_X1_seekSecond_2 4 rfl) ?_
      refine lv_iconst (v := (-1 : Int32)) G.hx G.hb (dcs_get dec_X1_seekSecond_2 5 rfl) (by decide) ?_
      refine lv_icmp_ne (tgt := 178) G.hx G.hb (dcs_get dec_X1_seekSecond_2 6 rfl) (by decide) (fun hc => ?_) (fun hc => ?_)
      · rw [if_neg hc] at hf
        refine lv_iconst (v := (3 : Int32)) G.hx G.hb (dcs_get dec_X1_seekSecond_2 9 rfl) (by decide) ?_
        exact B_X1_seekSecond_179 a0 a1 l2 l3 l4 l6 l7 l8 a0 (3 : Int32) σ28 G hm ok_a0 ok_a1 ok_a0 hf hb0 hb1 hb2 hr w (lv_sub hl [1, 2, 3, 4, 5, 6, 7, 8] rfl)
      · rw [if_pos hc] at hf
        refine lv_iconst (v := (0 : Int32)) G.hx G.hb (dcs_get dec_X1_seekSecond_2 7 rfl) (by decide) ?_
        refine lv_goto (tgt := 179) G.hx G.hb (dcs_get dec_X1_seekSecond_2 8 rfl) (by decide) ?_
        exact B_X1_seekSecond_179 a0 a1 l2 l3 l4 l6 l7 l8 a0 (0 : Int32) σ28 G hm ok_a0 ok_a1 ok_a0 hf hb0 hb1 hb2 hr w (lv_sub hl [1, 2, 3, 4, 5, 6, 7, 8] rfl)
set_option maxRecDepth 100000 in
set_option maxHeartbeats 4000000 in
theorem B_X1_seekSecond_188 {H : Heap} {locs : List Loc} {ls : Array Slot} {σ0 : hSt} {o : (Int32 × hSt) ⊕ ((Int32 × hSt) ⊕ (hSt))} (a0 : Nat) (a1 : Nat) (l2 : Int32) (l3 : Int32) (l4 : Int64) (l6 : Int32) (l7 : Int32) (σ : hSt) (G : Gx p m c cX1_seekSecond 10 s args RX1 D ay NC ad (aN NC ad)) (hm : meth.sig.returnType = none ∧ meth.locks = false) (ok_a0 : okr kC NC 1 a0 = true) (ok_a1 : okr kC NC 7 a1 = true) (hf : F_X1_seekSecond_188 a0 a1 l2 l3 l4 l6 l7 σ = some o) (hb0 : ∀ (v : Int32 × hSt), o = .inr (.inl v) → ∀ (H : Heap) (locs : List Loc) (ls : Array Slot), Wd D ay kC NC ad (aN NC ad) s v.2 H locs → lv_has ls 10 [(0, .ref (ad a0)), (1, .ref (ad a1)), (2, .int l2), (3, .int l3), (4, .long l4), (6, .int v.1)] → W p l e (rmK 4 88) s m args below meth c H locs 0 0 (MQ below (cV D ay kC NC ad σ0) args s 0 0 (aN NC ad)) (F0 m 3 ls [])) (hb1 : ∀ (v : Int32 × hSt), o = .inl v → ∀ (H : Heap) (locs : List Loc) (ls : Array Slot), Wd D ay kC NC ad (aN NC ad) s v.2 H locs → lv_has ls 10 [(0, .ref (ad a0)), (1, .ref (ad a1)), (2, .int l2), (3, .int l3), (4, .long l4), (6, .int l6), (7, .int v.1)] → W p l e (rmK 4 88) s m args below meth c H locs 0 0 (MQ below (cV D ay kC NC ad σ0) args s 0 0 (aN NC ad)) (F0 m 22 ls [])) (hr : ∀ x, o = .inr (.inr (x)) → x = σ0) (w : Wd D ay kC NC ad (aN NC ad) s σ H locs) (hl : lv_has ls 10 [(0, .ref (ad a0)), (1, .ref (ad a1)), (2, .int l2), (3, .int l3), (4, .long l4), (6, .int l6), (7, .int l7)]) : W p l e (rmK 4 88) s m args below meth c H locs 0 0 (MQ below (cV D ay kC NC ad σ0) args s 0 0 (aN NC ad)) (F0 m 188 ls []) := by
  have k_a0 := okr_in ok_a0
  have k_a1 := okr_in ok_a1
  unfold F_X1_seekSecond_188 at hf
  obtain ⟨v31, e_v31, hf⟩ := cL_some hf
  refine lv_iinc (v := v31) (lv' := [(7, .int v31), (0, .ref (ad a0)), (1, .ref (ad a1)), (2, .int l2), (3, .int l3), (4, .long l4), (6, .int l6)]) G.hx G.hb (dcs_get dec_X1_seekSecond_2 13 rfl) hl (k := 6) rfl (by rw [e_v31]; rfl) (by decide) rfl (fun ls hl => ?_)
  refine lv_goto (tgt := 22) G.hx G.hb (dcs_get dec_X1_seekSecond_2 14 rfl) (by decide) ?_
  exact hb1 _ (Option.some.inj hf).symm _ _ _ w (lv_sub hl [1, 2, 3, 4, 5, 6, 0] rfl)
set_option maxRecDepth 100000 in
set_option maxHeartbeats 4000000 in
theorem B_X1_seekSecond_41b {H : Heap} {locs : List Loc} {ls : Array Slot} {σ0 : hSt} {o : (Int32 × hSt) ⊕ ((Int32 × hSt) ⊕ ((Int32 × hSt) ⊕ (hSt)))} (a0 : Nat) (a1 : Nat) (l2 : Int32) (l3 : Int32) (l4 : Int64) (l6 : Int32) (l7 : Int32) (l8 : Int32) (σ : hSt) (G : Gx p m c cX1_seekSecond 10 s args RX1 D ay NC ad (aN NC ad)) (hm : meth.sig.returnType = none ∧ meth.locks = false) (ok_a0 : okr kC NC 1 a0 = true) (ok_a1 : okr kC NC 7 a1 = true) (hf : F_X1_seekSecond_41b a0 a1 l2 l3 l4 l6 l7 l8 σ = some o) (hb0 : ∀ (v : Int32 × hSt), o = .inr (.inr (.inl v)) → ∀ (H : Heap) (locs : List Loc) (ls : Array Slot), Wd D ay kC NC ad (aN NC ad) s v.2 H locs → lv_has ls 10 [(0, .ref (ad a0)), (1, .ref (ad a1)), (2, .int l2), (3, .int l3), (4, .long l4), (6, .int v.1)] → W p l e (rmK 4 88) s m args below meth c H locs 0 0 (MQ below (cV D ay kC NC ad σ0) args s 0 0 (aN NC ad)) (F0 m 3 ls [])) (hb1 : ∀ (v : Int32 × hSt), o = .inr (.inl v) → ∀ (H : Heap) (locs : List Loc) (ls : Array Slot), Wd D ay kC NC ad (aN NC ad) s v.2 H locs → lv_has ls 10 [(0, .ref (ad a0)), (1, .ref (ad a1)), (2, .int l2), (3, .int l3), (4, .long l4), (6, .int l6), (7, .int v.1)] → W p l e (rmK 4 88) s m args below meth c H locs 0 0 (MQ below (cV D ay kC NC ad σ0) args s 0 0 (aN NC ad)) (F0 m 22 ls [])) (hb2 : ∀ (v : Int32 × hSt), o = .inl v → ∀ (H : Heap) (locs : List Loc) (ls : Array Slot), Wd D ay kC NC ad (aN NC ad) s v.2 H locs → lv_has ls 10 [(0, .ref (ad a0)), (1, .ref (ad a1)), (2, .int l2), (3, .int l3), (4, .long l4), (6, .int l6), (7, .int l7), (8, .int v.1)] → W p l e (rmK 4 88) s m args below meth c H locs 0 0 (MQ below (cV D ay kC NC ad σ0) args s 0 0 (aN NC ad)) (F0 m 41 ls [])) (hr : ∀ x, o = .inr (.inr (.inr (x))) → x = σ0) (w : Wd D ay kC NC ad (aN NC ad) s σ H locs) (hl : lv_has ls 10 [(0, .ref (ad a0)), (1, .ref (ad a1)), (2, .int l2), (3, .int l3), (4, .long l4), (6, .int l6), (7, .int l7), (8, .int l8)]) : W p l e (rmK 4 88) s m args below meth c H locs 0 0 (MQ below (cV D ay kC NC ad σ0) args s 0 0 (aN NC ad)) (F0 m 41 ls []) := by
  have k_a0 := okr_in ok_a0
  have k_a1 := okr_in ok_a1
  unfold F_X1_seekSecond_41b at hf
  refine lv_iload G.hx G.hb (dcs_get dec_X1_seekSecond_0 20 rfl) (lv_at hl 7 rfl) ?_
  refine lv_iconst (v := (2 : Int32)) G.hx G.hb (dcs_get dec_X1_seekSecond_0 21 rfl) (by decide) ?_
  refine lv_icmp_ge (tgt := 188) G.hx G.hb (dcs_get dec_X1_seekSecond_0 22 rfl) (by decide) (fun hc => ?_) (fun hc => ?_)
  · rw [if_pos hc] at hf
    obtain ⟨x9, h9, e9⟩ := map_some_inv hf
    subst e9
    exact B_X1_seekSecond_188 a0 a1 l2 l3 l4 l6 l7 σ G hm ok_a0 ok_a1 h9 (fun v e => hb0 v (by rw [e])) (fun v e => hb1 v (by rw [e])) (fun x e => hr x (by rw [e])) w (lv_sub hl [0, 1, 2, 3, 4, 5, 6] rfl)
  · rw [if_neg hc] at hf
    refine lv_aload_n G.hx G.hb (dcs_get dec_X1_seekSecond_0 23 rfl) rfl (lv_at hl 0 rfl) ?_
    refine r_geti (k := 1) cls1 fi_1_1.1 fi_1_1.2 q_352 G w k_a0.1 k_a0.2 (dcs_get dec_X1_seekSecond_0 24 rfl) ?_
    refine lv_if_ne (tgt := 188) G.hx G.hb (dcs_get dec_X1_seekSecond_0 25 rfl) (by decide) (fun hc => ?_) (fun hc => ?_)
    · rw [if_neg hc] at hf
      obtain ⟨x9, h9, e9⟩ := map_some_inv hf
      subst e9
      exact B_X1_seekSecond_188 a0 a1 l2 l3 l4 l6 l7 σ G hm ok_a0 ok_a1 h9 (fun v e => hb0 v (by rw [e])) (fun v e => hb1 v (by rw [e])) (fun x e => hr x (by rw [e])) w (lv_sub hl [0, 1, 2, 3, 4, 5, 6] rfl)
    · rw [if_pos hc] at hf
      refine lv_iload G.hx G.hb (dcs_get dec_X1_seekSecond_0 26 rfl) (lv_at hl 7 rfl) ?_
      refine lv_iconst (v := (1 : Int32)) G.hx G.hb (dcs_get dec_X1_seekSecond_0 27 rfl) (by decide) ?_
      refine lv_icmp_ne (tgt := 64) G.hx G.hb (dcs_get dec_X1_seekSecond_0 28 rfl) (by decide) (fun hc => ?_) (fun hc => ?_)
      · rw [if_neg hc] at hf
        refine lv_iconst (v := (0 : Int32)) G.hx G.hb (dcs_get dec_X1_seekSecond_0 31 rfl) (by decide) ?_
        exact B_X1_seekSecond_65 a0 a1 l2 l3 l4 l6 l7 l8 (0 : Int32) σ G hm ok_a0 ok_a1 hf hb0 hb1 hb2 hr w (lv_sub hl [0, 1, 2, 3, 4, 5, 6, 7] rfl)
      · rw [if_pos hc] at hf
        refine lv_iconst (v := (1 : Int32)) G.hx G.hb (dcs_get dec_X1_seekSecond_0 29 rfl) (by decide) ?_
        refine lv_goto (tgt := 65) G.hx G.hb (dcs_get dec_X1_seekSecond_0 30 rfl) (by decide) ?_
        exact B_X1_seekSecond_65 a0 a1 l2 l3 l4 l6 l7 l8 (1 : Int32) σ G hm ok_a0 ok_a1 hf hb0 hb1 hb2 hr w (lv_sub hl [0, 1, 2, 3, 4, 5, 6, 7] rfl)
set_option maxRecDepth 100000 in
set_option maxHeartbeats 4000000 in
theorem H_X1_seekSecond_41 {σ0 : hSt} {o : (Int32 × hSt) ⊕ ((Int32 × hSt) ⊕ (hSt))} (a0 : Nat) (a1 : Nat) (l2 : Int32) (l3 : Int32) (l4 : Int64) (l6 : Int32) (l7 : Int32) (G : Gx p m c cX1_seekSecond 10 s args RX1 D ay NC ad (aN NC ad)) (hm : meth.sig.returnType = none ∧ meth.locks = false) (ok_a0 : okr kC NC 1 a0 = true) (ok_a1 : okr kC NC 7 a1 = true) (hb0 : ∀ (v : Int32 × hSt), o = .inr (.inl v) → ∀ (H : Heap) (locs : List Loc) (ls : Array Slot), Wd D ay kC NC ad (aN NC ad) s v.2 H locs → lv_has ls 10 [(0, .ref (ad a0)), (1, .ref (ad a1)), (2, .int l2), (3, .int l3), (4, .long l4), (6, .int v.1)] → W p l e (rmK 4 88) s m args below meth c H locs 0 0 (MQ below (cV D ay kC NC ad σ0) args s 0 0 (aN NC ad)) (F0 m 3 ls [])) (hb1 : ∀ (v : Int32 × hSt), o = .inl v → ∀ (H : Heap) (locs : List Loc) (ls : Array Slot), Wd D ay kC NC ad (aN NC ad) s v.2 H locs → lv_has ls 10 [(0, .ref (ad a0)), (1, .ref (ad a1)), (2, .int l2), (3, .int l3), (4, .long l4), (6, .int l6), (7, .int v.1)] → W p l e (rmK 4 88) s m args below meth c H locs 0 0 (MQ below (cV D ay kC NC ad σ0) args s 0 0 (aN NC ad)) (F0 m 22 ls [])) (hr : ∀ x, o = .inr (.inr (x)) → x = σ0) : ∀ (k : Nat) (v : Int32 × hSt), lp (S_X1_seekSecond_41 a0 a1 l2 l3 l4 l6 l7) k v = some o → ∀ (H : Heap) (locs : List Loc) (ls : Array Slot), Wd D ay kC NC ad (aN NC ad) s v.2 H locs → lv_has ls 10 [(0, .ref (ad a0)), (1, .ref (ad a1)), (2, .int l2), (3, .int l3), (4, .long l4), (6, .int l6), (7, .int l7), (8, .int v.1)] → W p l e (rmK 4 88) s m args below meth c H locs 0 0 (MQ below (cV D ay kC NC ad σ0) args s 0 0 (aN NC ad)) (F0 m 41 ls []) := by
  intro k
  induction k with
  | zero => intro v hf; cases hf
  | succ k ih =>
    intro v hf H locs ls w hl
    obtain ⟨o1, h1, h2, h3⟩ := lp_some hf
    exact B_X1_seekSecond_41b a0 a1 l2 l3 l4 l6 l7 v.1 v.2 G hm ok_a0 ok_a1 h1 (fun v' e => hb0 v' (h3 _ e).symm) (fun v' e => hb1 v' (h3 _ e).symm) (fun v' e => ih v' (h2 v' e)) (fun x e => hr x (h3 _ e).symm) w hl
set_option maxRecDepth 100000 in
set_option maxHeartbeats 4000000 in
theorem B_X1_seekSecond_41 {H : Heap} {locs : List Loc} {ls : Array Slot} {σ0 : hSt} {o : (Int32 × hSt) ⊕ ((Int32 × hSt) ⊕ (hSt))} (a0 : Nat) (a1 : Nat) (l2 : Int32) (l3 : Int32) (l4 : Int64) (l6 : Int32) (l7 : Int32) (l8 : Int32) (σ : hSt) (G : Gx p m c cX1_seekSecond 10 s args RX1 D ay NC ad (aN NC ad)) (hm : meth.sig.returnType = none ∧ meth.locks = false) (ok_a0 : okr kC NC 1 a0 = true) (ok_a1 : okr kC NC 7 a1 = true) (hf : F_X1_seekSecond_41 a0 a1 l2 l3 l4 l6 l7 l8 σ = some o) (hb0 : ∀ (v : Int32 × hSt), o = .inr (.inl v) → ∀ (H : Heap) (locs : List Loc) (ls : Array Slot), Wd D ay kC NC ad (aN NC ad) s v.2 H locs → lv_has ls 10 [(0, .ref (ad a0)), (1, .ref (ad a1)), (2, .int l2), (3, .int l3), (4, .long l4), (6, .int v.1)] → W p l e (rmK 4 88) s m args below meth c H locs 0 0 (MQ below (cV D ay kC NC ad σ0) args s 0 0 (aN NC ad)) (F0 m 3 ls [])) (hb1 : ∀ (v : Int32 × hSt), o = .inl v → ∀ (H : Heap) (locs : List Loc) (ls : Array Slot), Wd D ay kC NC ad (aN NC ad) s v.2 H locs → lv_has ls 10 [(0, .ref (ad a0)), (1, .ref (ad a1)), (2, .int l2), (3, .int l3), (4, .long l4), (6, .int l6), (7, .int v.1)] → W p l e (rmK 4 88) s m args below meth c H locs 0 0 (MQ below (cV D ay kC NC ad σ0) args s 0 0 (aN NC ad)) (F0 m 22 ls [])) (hr : ∀ x, o = .inr (.inr (x)) → x = σ0) (w : Wd D ay kC NC ad (aN NC ad) s σ H locs) (hl : lv_has ls 10 [(0, .ref (ad a0)), (1, .ref (ad a1)), (2, .int l2), (3, .int l3), (4, .long l4), (6, .int l6), (7, .int l7), (8, .int l8)]) : W p l e (rmK 4 88) s m args below meth c H locs 0 0 (MQ below (cV D ay kC NC ad σ0) args s 0 0 (aN NC ad)) (F0 m 41 ls []) := by
  unfold F_X1_seekSecond_41 at hf
  exact H_X1_seekSecond_41 a0 a1 l2 l3 l4 l6 l7  G hm ok_a0 ok_a1 hb0 hb1 hr fuel (l8, σ) hf _ _ _ w hl
set_option maxRecDepth 100000 in
set_option maxHeartbeats 4000000 in
theorem B_X1_seekSecond_194 {H : Heap} {locs : List Loc} {ls : Array Slot} {σ0 : hSt} {o : (Int32 × hSt) ⊕ (hSt)} (a0 : Nat) (a1 : Nat) (l2 : Int32) (l3 : Int32) (l4 : Int64) (l6 : Int32) (σ : hSt) (G : Gx p m c cX1_seekSecond 10 s args RX1 D ay NC ad (aN NC ad)) (hm : meth.sig.returnType = none ∧ meth.locks = false) (ok_a0 : okr kC NC 1 a0 = true) (ok_a1 : okr kC NC 7 a1 = true) (hf : F_X1_seekSecond_194 a0 a1 l2 l3 l4 l6 σ = some o) (hb0 : ∀ (v : Int32 × hSt), o = .inl v → ∀ (H : Heap) (locs : List Loc) (ls : Array Slot), Wd D ay kC NC ad (aN NC ad) s v.2 H locs → lv_has ls 10 [(0, .ref (ad a0)), (1, .ref (ad a1)), (2, .int l2), (3, .int l3), (4, .long l4), (6, .int v.1)] → W p l e (rmK 4 88) s m args below meth c H locs 0 0 (MQ below (cV D ay kC NC ad σ0) args s 0 0 (aN NC ad)) (F0 m 3 ls [])) (hr : ∀ x, o = .inr (x) → x = σ0) (w : Wd D ay kC NC ad (aN NC ad) s σ H locs) (hl : lv_has ls 10 [(0, .ref (ad a0)), (1, .ref (ad a1)), (2, .int l2), (3, .int l3), (4, .long l4), (6, .int l6)]) : W p l e (rmK 4 88) s m args below meth c H locs 0 0 (MQ below (cV D ay kC NC ad σ0) args s 0 0 (aN NC ad)) (F0 m 194 ls []) := by
  have k_a0 := okr_in ok_a0
  have k_a1 := okr_in ok_a1
  unfold F_X1_seekSecond_194 at hf
  obtain ⟨v32, e_v32, hf⟩ := cL_some hf
  refine lv_iinc (v := v32) (lv' := [(6, .int v32), (0, .ref (ad a0)), (1, .ref (ad a1)), (2, .int l2), (3, .int l3), (4, .long l4)]) G.hx G.hb (dcs_get dec_X1_seekSecond_2 15 rfl) hl (k := 5) rfl (by rw [e_v32]; rfl) (by decide) rfl (fun ls hl => ?_)
  refine lv_goto (tgt := 3) G.hx G.hb (dcs_get dec_X1_seekSecond_2 16 rfl) (by decide) ?_
  exact hb0 _ (Option.some.inj hf).symm _ _ _ w (lv_sub hl [1, 2, 3, 4, 5, 0] rfl)
set_option maxRecDepth 100000 in
set_option maxHeartbeats 4000000 in
theorem B_X1_seekSecond_22b {H : Heap} {locs : List Loc} {ls : Array Slot} {σ0 : hSt} {o : (Int32 × hSt) ⊕ ((Int32 × hSt) ⊕ (hSt))} (a0 : Nat) (a1 : Nat) (l2 : Int32) (l3 : Int32) (l4 : Int64) (l6 : Int32) (l7 : Int32) (σ : hSt) (G : Gx p m c cX1_seekSecond 10 s args RX1 D ay NC ad (aN NC ad)) (hm : meth.sig.returnType = none ∧ meth.locks = false) (ok_a0 : okr kC NC 1 a0 = true) (ok_a1 : okr kC NC 7 a1 = true) (hf : F_X1_seekSecond_22b a0 a1 l2 l3 l4 l6 l7 σ = some o) (hb0 : ∀ (v : Int32 × hSt), o = .inr (.inl v) → ∀ (H : Heap) (locs : List Loc) (ls : Array Slot), Wd D ay kC NC ad (aN NC ad) s v.2 H locs → lv_has ls 10 [(0, .ref (ad a0)), (1, .ref (ad a1)), (2, .int l2), (3, .int l3), (4, .long l4), (6, .int v.1)] → W p l e (rmK 4 88) s m args below meth c H locs 0 0 (MQ below (cV D ay kC NC ad σ0) args s 0 0 (aN NC ad)) (F0 m 3 ls [])) (hb1 : ∀ (v : Int32 × hSt), o = .inl v → ∀ (H : Heap) (locs : List Loc) (ls : Array Slot), Wd D ay kC NC ad (aN NC ad) s v.2 H locs → lv_has ls 10 [(0, .ref (ad a0)), (1, .ref (ad a1)), (2, .int l2), (3, .int l3), (4, .long l4), (6, .int l6), (7, .int v.1)] → W p l e (rmK 4 88) s m args below meth c H locs 0 0 (MQ below (cV D ay kC NC ad σ0) args s 0 0 (aN NC ad)) (F0 m 22 ls [])) (hr : ∀ x, o = .inr (.inr (x)) → x = σ0) (w : Wd D ay kC NC ad (aN NC ad) s σ H locs) (hl : lv_has ls 10 [(0, .ref (ad a0)), (1, .ref (ad a1)), (2, .int l2), (3, .int l3), (4, .long l4), (6, .int l6), (7, .int l7)]) : W p l e (rmK 4 88) s m args below meth c H locs 0 0 (MQ below (cV D ay kC NC ad σ0) args s 0 0 (aN NC ad)) (F0 m 22 ls []) := by
  have k_a0 := okr_in ok_a0
  have k_a1 := okr_in ok_a1
  unfold F_X1_seekSecond_22b at hf
  refine lv_iload G.hx G.hb (dcs_get dec_X1_seekSecond_0 11 rfl) (lv_at hl 6 rfl) ?_
  refine lv_aload_n G.hx G.hb (dcs_get dec_X1_seekSecond_0 12 rfl) rfl (lv_at hl 1 rfl) ?_
  refine r_getiN (k := 3) cls7 fi_7_3.1 fi_7_3.2 nf_103 G w k_a1.1 k_a1.2 (dcs_get dec_X1_seekSecond_0 13 rfl) ?_
  refine lv_icmp_ge (tgt := 194) G.hx G.hb (dcs_get dec_X1_seekSecond_0 14 rfl) (by decide) (fun hc => ?_) (fun hc => ?_)
  · rw [if_pos hc] at hf
    obtain ⟨x9, h9, e9⟩ := map_some_inv hf
    subst e9
    exact B_X1_seekSecond_194 a0 a1 l2 l3 l4 l6 σ G hm ok_a0 ok_a1 h9 (fun v e => hb0 v (by rw [e])) (fun x e => hr x (by rw [e])) w (lv_sub hl [0, 1, 2, 3, 4, 5] rfl)
  · rw [if_neg hc] at hf
    refine lv_aload_n G.hx G.hb (dcs_get dec_X1_seekSecond_0 15 rfl) rfl (lv_at hl 0 rfl) ?_
    refine r_geti (k := 1) cls1 fi_1_1.1 fi_1_1.2 q_352 G w k_a0.1 k_a0.2 (dcs_get dec_X1_seekSecond_0 16 rfl) ?_
    refine lv_if_ne (tgt := 194) G.hx G.hb (dcs_get dec_X1_seekSecond_0 17 rfl) (by decide) (fun hc => ?_) (fun hc => ?_)
    · rw [if_neg hc] at hf
      obtain ⟨x9, h9, e9⟩ := map_some_inv hf
      subst e9
      exact B_X1_seekSecond_194 a0 a1 l2 l3 l4 l6 σ G hm ok_a0 ok_a1 h9 (fun v e => hb0 v (by rw [e])) (fun x e => hr x (by rw [e])) w (lv_sub hl [0, 1, 2, 3, 4, 5] rfl)
    · rw [if_pos hc] at hf
      refine lv_iconst (v := (0 : Int32)) G.hx G.hb (dcs_get dec_X1_seekSecond_0 18 rfl) (by decide) ?_
      refine lv_istore (lv' := [(8, .int (0 : Int32)), (0, .ref (ad a0)), (1, .ref (ad a1)), (2, .int l2), (3, .int l3), (4, .long l4), (6, .int l6), (7, .int l7)]) G.hx G.hb (dcs_get dec_X1_seekSecond_0 19 rfl) hl (by decide) rfl (fun ls hl => ?_)
      exact B_X1_seekSecond_41 a0 a1 l2 l3 l4 l6 l7 (0 : Int32) σ G hm ok_a0 ok_a1 hf hb0 hb1 hr w (lv_sub hl [1, 2, 3, 4, 5, 6, 7, 0] rfl)
set_option maxRecDepth 100000 in
set_option maxHeartbeats 4000000 in
theorem H_X1_seekSecond_22 {σ0 : hSt} {o : (Int32 × hSt) ⊕ (hSt)} (a0 : Nat) (a1 : Nat) (l2 : Int32) (l3 : Int32) (l4 : Int64) (l6 : Int32) (G : Gx p m c cX1_seekSecond 10 s args RX1 D ay NC ad (aN NC ad)) (hm : meth.sig.returnType = none ∧ meth.locks = false) (ok_a0 : okr kC NC 1 a0 = true) (ok_a1 : okr kC NC 7 a1 = true) (hb0 : ∀ (v : Int32 × hSt), o = .inl v → ∀ (H : Heap) (locs : List Loc) (ls : Array Slot), Wd D ay kC NC ad (aN NC ad) s v.2 H locs → lv_has ls 10 [(0, .ref (ad a0)), (1, .ref (ad a1)), (2, .int l2), (3, .int l3), (4, .long l4), (6, .int v.1)] → W p l e (rmK 4 88) s m args below meth c H locs 0 0 (MQ below (cV D ay kC NC ad σ0) args s 0 0 (aN NC ad)) (F0 m 3 ls [])) (hr : ∀ x, o = .inr (x) → x = σ0) : ∀ (k : Nat) (v : Int32 × hSt), lp (S_X1_seekSecond_22 a0 a1 l2 l3 l4 l6) k v = some o → ∀ (H : Heap) (locs : List Loc) (ls : Array Slot), Wd D ay kC NC ad (aN NC ad) s v.2 H locs → lv_has ls 10 [(0, .ref (ad a0)), (1, .ref (ad a1)), (2, .int l2), (3, .int l3), (4, .long l4), (6, .int l6), (7, .int v.1)] → W p l e (rmK 4 88) s m args below meth c H locs 0 0 (MQ below (cV D ay kC NC ad σ0) args s 0 0 (aN NC ad)) (F0 m 22 ls []) := by
  intro k
  induction k with
  | zero => intro v hf; cases hf
  | succ k ih =>
    intro v hf H locs ls w hl
    obtain ⟨o1, h1, h2, h3⟩ := lp_some hf
    exact B_X1_seekSecond_22b a0 a1 l2 l3 l4 l6 v.1 v.2 G hm ok_a0 ok_a1 h1 (fun v' e => hb0 v' (h3 _ e).symm) (fun v' e => ih v' (h2 v' e)) (fun x e => hr x (h3 _ e).symm) w hl
set_option maxRecDepth 100000 in
set_option maxHeartbeats 4000000 in
theorem B_X1_seekSecond_22 {H : Heap} {locs : List Loc} {ls : Array Slot} {σ0 : hSt} {o : (Int32 × hSt) ⊕ (hSt)} (a0 : Nat) (a1 : Nat) (l2 : Int32) (l3 : Int32) (l4 : Int64) (l6 : Int32) (l7 : Int32) (σ : hSt) (G : Gx p m c cX1_seekSecond 10 s args RX1 D ay NC ad (aN NC ad)) (hm : meth.sig.returnType = none ∧ meth.locks = false) (ok_a0 : okr kC NC 1 a0 = true) (ok_a1 : okr kC NC 7 a1 = true) (hf : F_X1_seekSecond_22 a0 a1 l2 l3 l4 l6 l7 σ = some o) (hb0 : ∀ (v : Int32 × hSt), o = .inl v → ∀ (H : Heap) (locs : List Loc) (ls : Array Slot), Wd D ay kC NC ad (aN NC ad) s v.2 H locs → lv_has ls 10 [(0, .ref (ad a0)), (1, .ref (ad a1)), (2, .int l2), (3, .int l3), (4, .long l4), (6, .int v.1)] → W p l e (rmK 4 88) s m args below meth c H locs 0 0 (MQ below (cV D ay kC NC ad σ0) args s 0 0 (aN NC ad)) (F0 m 3 ls [])) (hr : ∀ x, o = .inr (x) → x = σ0) (w : Wd D ay kC NC ad (aN NC ad) s σ H locs) (hl : lv_has ls 10 [(0, .ref (ad a0)), (1, .ref (ad a1)), (2, .int l2), (3, .int l3), (4, .long l4), (6, .int l6), (7, .int l7)]) : W p l e (rmK 4 88) s m args below meth c H locs 0 0 (MQ below (cV D ay kC NC ad σ0) args s 0 0 (aN NC ad)) (F0 m 22 ls []) := by
  unfold F_X1_seekSecond_22 at hf
  exact H_X1_seekSecond_22 a0 a1 l2 l3 l4 l6  G hm ok_a0 ok_a1 hb0 hr fuel (l7, σ) hf _ _ _ w hl
set_option maxRecDepth 100000 in
set_option maxHeartbeats 4000000 in
theorem B_X1_seekSecond_200 {H : Heap} {locs : List Loc} {ls : Array Slot} {σ0 : hSt}  (σ : hSt) (G : Gx p m c cX1_seekSecond 10 s args RX1 D ay NC ad (aN NC ad)) (hm : meth.sig.returnType = none ∧ meth.locks = false)  (hf : F_X1_seekSecond_200  σ = some σ0)  (w : Wd D ay kC NC ad (aN NC ad) s σ H locs) (hl : lv_has ls 10 []) : W p l e (rmK 4 88) s m args below meth c H locs 0 0 (MQ below (cV D ay kC NC ad σ0) args s 0 0 (aN NC ad)) (F0 m 200 ls []) := by
  unfold F_X1_seekSecond_200 at hf
  have e9 := Option.some.inj hf
  exact r_vret G w hm e9 (dcs_get dec_X1_seekSecond_2 17 rfl)
set_option maxRecDepth 100000 in
set_option maxHeartbeats 4000000 in
theorem B_X1_seekSecond_3b {H : Heap} {locs : List Loc} {ls : Array Slot} {σ0 : hSt} {o : (Int32 × hSt) ⊕ (hSt)} (a0 : Nat) (a1 : Nat) (l2 : Int32) (l3 : Int32) (l4 : Int64) (l6 : Int32) (σ : hSt) (G : Gx p m c cX1_seekSecond 10 s args RX1 D ay NC ad (aN NC ad)) (hm : meth.sig.returnType = none ∧ meth.locks = false) (ok_a0 : okr kC NC 1 a0 = true) (ok_a1 : okr kC NC 7 a1 = true) (hf : F_X1_seekSecond_3b a0 a1 l2 l3 l4 l6 σ = some o) (hb0 : ∀ (v : Int32 × hSt), o = .inl v → ∀ (H : Heap) (locs : List Loc) (ls : Array Slot), Wd D ay kC NC ad (aN NC ad) s v.2 H locs → lv_has ls 10 [(0, .ref (ad a0)), (1, .ref (ad a1)), (2, .int l2), (3, .int l3), (4, .long l4), (6, .int v.1)] → W p l e (rmK 4 88) s m args below meth c H locs 0 0 (MQ below (cV D ay kC NC ad σ0) args s 0 0 (aN NC ad)) (F0 m 3 ls [])) (hr : ∀ x, o = .inr (x) → x = σ0) (w : Wd D ay kC NC ad (aN NC ad) s σ H locs) (hl : lv_has ls 10 [(0, .ref (ad a0)), (1, .ref (ad a1)), (2, .int l2), (3, .int l3), (4, .long l4), (6, .int l6)]) : W p l e (rmK 4 88) s m args below meth c H locs 0 0 (MQ below (cV D ay kC NC ad σ0) args s 0 0 (aN NC ad)) (F0 m 3 ls []) := by
  have k_a0 := okr_in ok_a0
  have k_a1 := okr_in ok_a1
  unfold F_X1_seekSecond_3b at hf
  refine lv_iload G.hx G.hb (dcs_get dec_X1_seekSecond_0 2 rfl) (lv_at hl 5 rfl) ?_
  refine lv_aload_n G.hx G.hb (dcs_get dec_X1_seekSecond_0 3 rfl) rfl (lv_at hl 1 rfl) ?_
  refine r_getiN (k := 0) cls7 fi_7_0.1 fi_7_0.2 nf_93 G w k_a1.1 k_a1.2 (dcs_get dec_X1_seekSecond_0 4 rfl) ?_
  refine lv_icmp_ge (tgt := 200) G.hx G.hb (dcs_get dec_X1_seekSecond_0 5 rfl) (by decide) (fun hc => ?_) (fun hc => ?_)
  · rw [if_pos hc] at hf
    obtain ⟨x9, h9, e9⟩ := map_some_inv hf
    subst e9
    have e8 := hr _ rfl
    rw [e8] at h9
    exact B_X1_seekSecond_200  σ G hm  h9 w (lv_sub hl [] rfl)
  · rw [if_neg hc] at hf
    refine lv_aload_n G.hx G.hb (dcs_get dec_X1_seekSecond_0 6 rfl) rfl (lv_at hl 0 rfl) ?_
    refine r_geti (k := 1) cls1 fi_1_1.1 fi_1_1.2 q_352 G w k_a0.1 k_a0.2 (dcs_get dec_X1_seekSecond_0 7 rfl) ?_
    refine lv_if_ne (tgt := 200) G.hx G.hb (dcs_get dec_X1_seekSecond_0 8 rfl) (by decide) (fun hc => ?_) (fun hc => ?_)
    · rw [if_neg hc] at hf
      obtain ⟨x9, h9, e9⟩ := map_some_inv hf
      subst e9
      have e8 := hr _ rfl
      rw [e8] at h9
      exact B_X1_seekSecond_200  σ G hm  h9 w (lv_sub hl [] rfl)
    · rw [if_pos hc] at hf
      refine lv_iconst (v := (0 : Int32)) G.hx G.hb (dcs_get dec_X1_seekSecond_0 9 rfl) (by decide) ?_
      refine lv_istore (lv' := [(7, .int (0 : Int32)), (0, .ref (ad a0)), (1, .ref (ad a1)), (2, .int l2), (3, .int l3), (4, .long l4), (6, .int l6)]) G.hx G.hb (dcs_get dec_X1_seekSecond_0 10 rfl) hl (by decide) rfl (fun ls hl => ?_)
      exact B_X1_seekSecond_22 a0 a1 l2 l3 l4 l6 (0 : Int32) σ G hm ok_a0 ok_a1 hf hb0 hr w (lv_sub hl [1, 2, 3, 4, 5, 6, 0] rfl)
set_option maxRecDepth 100000 in
set_option maxHeartbeats 4000000 in
theorem H_X1_seekSecond_3 {σ0 : hSt} (a0 : Nat) (a1 : Nat) (l2 : Int32) (l3 : Int32) (l4 : Int64) (G : Gx p m c cX1_seekSecond 10 s args RX1 D ay NC ad (aN NC ad)) (hm : meth.sig.returnType = none ∧ meth.locks = false) (ok_a0 : okr kC NC 1 a0 = true) (ok_a1 : okr kC NC 7 a1 = true)  : ∀ (k : Nat) (v : Int32 × hSt), lp (S_X1_seekSecond_3 a0 a1 l2 l3 l4) k v = some σ0 → ∀ (H : Heap) (locs : List Loc) (ls : Array Slot), Wd D ay kC NC ad (aN NC ad) s v.2 H locs → lv_has ls 10 [(0, .ref (ad a0)), (1, .ref (ad a1)), (2, .int l2), (3, .int l3), (4, .long l4), (6, .int v.1)] → W p l e (rmK 4 88) s m args below meth c H locs 0 0 (MQ below (cV D ay kC NC ad σ0) args s 0 0 (aN NC ad)) (F0 m 3 ls []) := by
  intro k
  induction k with
  | zero => intro v hf; cases hf
  | succ k ih =>
    intro v hf H locs ls w hl
    obtain ⟨o1, h1, h2, h3⟩ := lp_some hf
    exact B_X1_seekSecond_3b a0 a1 l2 l3 l4 v.1 v.2 G hm ok_a0 ok_a1 h1  (fun v' e => ih v' (h2 v' e)) (fun x e => h3 x e) w hl
set_option maxRecDepth 100000 in
set_option maxHeartbeats 4000000 in
theorem B_X1_seekSecond_3 {H : Heap} {locs : List Loc} {ls : Array Slot} {σ0 : hSt} (a0 : Nat) (a1 : Nat) (l2 : Int32) (l3 : Int32) (l4 : Int64) (l6 : Int32) (σ : hSt) (G : Gx p m c cX1_seekSecond 10 s args RX1 D ay NC ad (aN NC ad)) (hm : meth.sig.returnType = none ∧ meth.locks = false) (ok_a0 : okr kC NC 1 a0 = true) (ok_a1 : okr kC NC 7 a1 = true) (hf : F_X1_seekSecond_3 a0 a1 l2 l3 l4 l6 σ = some σ0)  (w : Wd D ay kC NC ad (aN NC ad) s σ H locs) (hl : lv_has ls 10 [(0, .ref (ad a0)), (1, .ref (ad a1)), (2, .int l2), (3, .int l3), (4, .long l4), (6, .int l6)]) : W p l e (rmK 4 88) s m args below meth c H locs 0 0 (MQ below (cV D ay kC NC ad σ0) args s 0 0 (aN NC ad)) (F0 m 3 ls []) := by
  unfold F_X1_seekSecond_3 at hf
  exact H_X1_seekSecond_3 a0 a1 l2 l3 l4  G hm ok_a0 ok_a1  fuel (l6, σ) hf _ _ _ w hl
set_option maxRecDepth 100000 in
set_option maxHeartbeats 4000000 in
theorem B_X1_seekSecond_0 {H : Heap} {locs : List Loc} {ls : Array Slot} {σ0 : hSt} (a0 : Nat) (a1 : Nat) (l2 : Int32) (l3 : Int32) (l4 : Int64) (σ : hSt) (G : Gx p m c cX1_seekSecond 10 s args RX1 D ay NC ad (aN NC ad)) (hm : meth.sig.returnType = none ∧ meth.locks = false) (ok_a0 : okr kC NC 1 a0 = true) (ok_a1 : okr kC NC 7 a1 = true) (hf : F_X1_seekSecond a0 a1 l2 l3 l4 σ = some σ0)  (w : Wd D ay kC NC ad (aN NC ad) s σ H locs) (hl : lv_has ls 10 [(0, .ref (ad a0)), (1, .ref (ad a1)), (2, .int l2), (3, .int l3), (4, .long l4)]) : W p l e (rmK 4 88) s m args below meth c H locs 0 0 (MQ below (cV D ay kC NC ad σ0) args s 0 0 (aN NC ad)) (F0 m 0 ls []) := by
  have k_a0 := okr_in ok_a0
  have k_a1 := okr_in ok_a1
  unfold F_X1_seekSecond at hf
  refine lv_iconst (v := (0 : Int32)) G.hx G.hb (dcs_get dec_X1_seekSecond_0 0 rfl) (by decide) ?_
  refine lv_istore (lv' := [(6, .int (0 : Int32)), (0, .ref (ad a0)), (1, .ref (ad a1)), (2, .int l2), (3, .int l3), (4, .long l4)]) G.hx G.hb (dcs_get dec_X1_seekSecond_0 1 rfl) hl (by decide) rfl (fun ls hl => ?_)
  exact B_X1_seekSecond_3 a0 a1 l2 l3 l4 (0 : Int32) σ G hm ok_a0 ok_a1 hf  w (lv_sub hl [1, 2, 3, 4, 5, 0] rfl)
end
set_option maxRecDepth 100000 in
set_option maxHeartbeats 4000000 in
theorem C_X1_seekSecond {l : Launch} {D : va_G} {ay : Nat → ClassId} {ad : Nat → Nat} (hi : hInj NC ad) (a0 : Nat) (a1 : Nat) (l2 : Int32) (l3 : Int32) (l4 : Int64) (σ : hSt) {σ0 : hSt} (hf : F_X1_seekSecond a0 a1 l2 l3 l4 σ = some σ0) (ok_a0 : okr kC NC 1 a0 = true) (ok_a1 : okr kC NC 7 a1 = true) : hM l D ay kC NC ad yX1_seekSecond cX1_seekSecond 10 (none) (rmK 4 88) [.ref (ad a0), .ref (ad a1), .int l2, .int l3, .long l4] σ (cV D ay kC NC ad σ0) := by
  refine hM_in (by decide) hi (Nat.le_of_ble_eq_true rfl) ?_
  intro p e s m below meth c G hm w ls hl
  exact B_X1_seekSecond_0 a0 a1 l2 l3 l4 σ G hm ok_a0 ok_a1 hf w (lv_sub hl [0, 1, 2, 3, 4] rfl)

/-! HillDrums.Loop.seek(LHillDrums$Text;LHillDrums$World;III)V -/
def DL_X1_seek_0 : List (Nat × Instr × Nat) := [(0, .aload_n 0, 1), (1, .iconst 0, 1), (2, .putfield 15, 3), (5, .aload_n 1, 1), (6, .aload_n 2, 1), (7, .getfield 29, 3), (10, .invokevirtual 32, 3), (13, .lstore 6, 2), (15, .lload 6, 2), (17, .iload 4, 2), (19, .invokestatic 38, 3), (22, .iload_n 3, 1), (23, .ishr, 1), (24, .iconst 1, 1), (25, .iand, 1), (26, .ifCond .eq 7, 3), (29, .iconst 1, 1), (30, .goto 4, 3), (33, .iconst 0, 1), (34, .istore 8, 2), (36, .iload 8, 2), (38, .ifCond .eq 28, 3), (41, .aload_n 2, 1), (42, .iload_n 3, 1), (43, .iload 5, 2), (45, .invokevirtual 42, 3), (48, .ifCond .eq 18, 3), (51, .aload_n 2, 1), (52, .aload_n 1, 1), (53, .getfield 46, 3), (56, .iload_n 3, 1), (57, .iload 5, 2), (59, .iconst 0, 1), (60, .invokevirtual 49, 3), (63, .ifCond .eq 4, 3), (66, .return_, 1), (67, .aload_n 0, 1), (68, .getfield 22, 3), (71, .aload_n 2, 1), (72, .invokevirtual 53, 3)]
set_option maxRecDepth 100000 in
theorem dec_X1_seek_0 : dcs cX1_seek DL_X1_seek_0 = true := by decide +kernel
def DL_X1_seek_1 : List (Nat × Instr × Nat) := [(75, .aload_n 0, 1), (76, .getfield 22, 3), (79, .iload_n 3, 1), (80, .iload 5, 2), (82, .iconst 0, 1), (83, .lload 6, 2), (85, .iload_n 3, 1), (86, .invokestatic 38, 3), (89, .invokevirtual 57, 3), (92, .aload_n 0, 1), (93, .getfield 9, 3), (96, .iconst 0, 1), (97, .iload_n 3, 1), (98, .iload 5, 2), (100, .iconst 0, 1), (101, .invokestatic 61, 3), (104, .iastore, 1), (105, .aload_n 0, 1), (106, .getfield 9, 3), (109, .iconst 1, 1), (110, .aload_n 1, 1), (111, .aload_n 0, 1), (112, .getfield 22, 3), (115, .iload 4, 2), (117, .iload 5, 2), (119, .invokestatic 65, 3), (122, .iastore, 1), (123, .aload_n 0, 1), (124, .getfield 9, 3), (127, .iconst 1, 1), (128, .iaload, 1), (129, .iconst (-1), 1), (130, .if_icmp .eq 9, 3), (133, .aload_n 0, 1), (134, .iconst 2, 1), (135, .putfield 15, 3), (138, .return_, 1), (139, .aload_n 0, 1), (140, .aload_n 1, 1), (141, .iload 4, 2)]
set_option maxRecDepth 100000 in
theorem dec_X1_seek_1 : dcs cX1_seek DL_X1_seek_1 = true := by decide +kernel
def DL_X1_seek_2 : List (Nat × Instr × Nat) := [(143, .iload 5, 2), (145, .lload 6, 2), (147, .invokevirtual 69, 3), (150, .return_, 1)]
set_option maxRecDepth 100000 in
theorem dec_X1_seek_2 : dcs cX1_seek DL_X1_seek_2 = true := by decide +kernel
theorem lb_X1_seek : lkB yX1_seek cX1_seek 9 (none) 5 := ⟨q_918, q_12, ⟨by decide, by decide⟩, by decide +kernel⟩
theorem lv_X1_seek : lkV yX1_seek := ⟨q_917, qs_59⟩
def F_X1_seek_66  (σ : hSt) : Option (hSt) :=
some (σ)
def F_X1_seek_34 (a0 : Nat) (a1 : Nat) (a2 : Nat) (l3 : Int32) (l4 : Int32) (l5 : Int32) (l6 : Int64) (s0 : Int32) (σ : hSt) : Option (hSt) :=
if s0 = 0 then (
F_X1_seek_66  σ) else (
(F_X10_isAble a2 l3 l5 σ).bind fun v2 =>
if v2 = 0 then (
F_X1_seek_66  σ) else (
(F_X10_isAnswer a2 (σ.1 a1 8) l3 l5 (0 : Int32) σ).bind fun v4 =>
if v4 = 0 then (
cR (σ.2.2 a0 2) (okr kC NC 10) fun z5 =>
(F_X10_copy z5 a2 σ).bind fun σ7 =>
cR (σ7.2.2 a0 2) (okr kC NC 10) fun z8 =>
(F_X11_hearersOf l6 l3 σ7).bind fun v10 =>
(F_X10_drumByDay z8 l3 l5 (0 : Int32) v10 σ7).bind fun σ12 =>
cR (σ12.2.2 a0 0) (okr kC NC 101) fun z13 =>
(F_X1_codeOf l3 l5 (0 : Int32) σ12).bind fun v15 =>
cG (inb (0 : Int32) (kC z13).2) <|
cL (uI σ12 z13 (0 : Int32).toNatClampNeg v15) fun σ17 =>
cR (σ17.2.2 a0 0) (okr kC NC 101) fun z18 =>
cR (σ17.2.2 a0 2) (okr kC NC 10) fun z19 =>
(F_X1_lastDrum a1 z19 l4 l5 σ17).bind fun v21 =>
cG (inb (1 : Int32) (kC z18).2) <|
cL (uI σ17 z18 (1 : Int32).toNatClampNeg v21) fun σ23 =>
cR (σ23.2.2 a0 0) (okr kC NC 101) fun z24 =>
cG (inb (1 : Int32) (kC z24).2) <|
if (σ23.1 z24 (1 : Int32).toNatClampNeg) = (-1 : Int32) then (
(F_X1_seekSecond a0 a1 l4 l5 l6 σ23).bind fun σ27 =>
some (σ27)) else (
cL (uI σ23 a0 1 (2 : Int32)) fun σ28 =>
some (σ28))) else (
F_X1_seek_66  σ)))
def F_X1_seek (a0 : Nat) (a1 : Nat) (a2 : Nat) (l3 : Int32) (l4 : Int32) (l5 : Int32) (σ : hSt) : Option (hSt) :=
cL (uI σ a0 1 (0 : Int32)) fun σ29 =>
cC (F_X7_heardOn a1 (σ29.1 a2 0) σ29) fun v31 σ32 =>
(F_X11_hearersOf v31 l4 σ32).bind fun v34 =>
if ((v34 >>> (l3 &&& 31)) &&& (1 : Int32)) = 0 then (
F_X1_seek_34 a0 a1 a2 l3 l4 l5 v31 (0 : Int32) σ32) else (
F_X1_seek_34 a0 a1 a2 l3 l4 l5 v31 (1 : Int32) σ32)
section
variable {p : Program} {l : Launch} {e : Env} {s : State} {m : MethodId} {args : Array Value} {below : List Frame} {meth : Method} {c : Code} {D : va_G} {ay : Nat → ClassId} {ad : Nat → Nat}
set_option maxRecDepth 100000 in
set_option maxHeartbeats 4000000 in
theorem B_X1_seek_66 {H : Heap} {locs : List Loc} {ls : Array Slot} {σ0 : hSt}  (σ : hSt) (G : Gx p m c cX1_seek 9 s args RX1 D ay NC ad (aN NC ad)) (hm : meth.sig.returnType = none ∧ meth.locks = false)  (hf : F_X1_seek_66  σ = some σ0)  (w : Wd D ay kC NC ad (aN NC ad) s σ H locs) (hl : lv_has ls 9 []) : W p l e (rmK 5 117) s m args below meth c H locs 0 0 (MQ below (cV D ay kC NC ad σ0) args s 0 0 (aN NC ad)) (F0 m 66 ls []) := by
  unfold F_X1_seek_66 at hf
  have e9 := Option.some.inj hf
  exact r_vret G w hm e9 (dcs_get dec_X1_seek_0 35 rfl)
set_option maxRecDepth 100000 in
set_option maxHeartbeats 4000000 in
theorem B_X1_seek_34 {H : Heap} {locs : List Loc} {ls : Array Slot} {σ0 : hSt} (a0 : Nat) (a1 : Nat) (a2 : Nat) (l3 : Int32) (l4 : Int32) (l5 : Int32) (l6 : Int64) (s0 : Int32) (σ : hSt) (G : Gx p m c cX1_seek 9 s args RX1 D ay NC ad (aN NC ad)) (hm : meth.sig.returnType = none ∧ meth.locks = false) (ok_a0 : okr kC NC 1 a0 = true) (ok_a1 : okr kC NC 7 a1 = true) (ok_a2 : okr kC NC 10 a2 = true) (hf : F_X1_seek_34 a0 a1 a2 l3 l4 l5 l6 s0 σ = some σ0)  (w : Wd D ay kC NC ad (aN NC ad) s σ H locs) (hl : lv_has ls 9 [(0, .ref (ad a0)), (1, .ref (ad a1)), (2, .ref (ad a2)), (3, .int l3), (4, .int l4), (5, .int l5), (6, .long l6)]) : W p l e (rmK 5 117) s m args below meth c H locs 0 0 (MQ below (cV D ay kC NC ad σ0) args s 0 0 (aN NC ad)) (F0 m 34 ls [.int s0]) := by
  have k_a0 := okr_in ok_a0
  have k_a1 := okr_in ok_a1
  have k_a2 := okr_in ok_a2
  unfold F_X1_seek_34 at hf
  refine lv_istore (lv' := [(8, .int s0), (0, .ref (ad a0)), (1, .ref (ad a1)), (2, .ref (ad a2)), (3, .int l3), (4, .int l4), (5, .int l5), (6, .long l6)]) G.hx G.hb (dcs_get dec_X1_seek_0 19 rfl) hl (by decide) rfl (fun ls hl => ?_)
  refine lv_iload G.hx G.hb (dcs_get dec_X1_seek_0 20 rfl) (lv_at hl 0 rfl) ?_
  refine lv_if_eq (tgt := 66) G.hx G.hb (dcs_get dec_X1_seek_0 21 rfl) (by decide) (fun hc => ?_) (fun hc => ?_)
  · rw [if_pos hc] at hf
    exact B_X1_seek_66  σ G hm  hf  w (lv_sub hl [] rfl)
  · rw [if_neg hc] at hf
    refine lv_aload_n G.hx G.hb (dcs_get dec_X1_seek_0 22 rfl) rfl (lv_at hl 3 rfl) ?_
    refine lv_iload_n G.hx G.hb (dcs_get dec_X1_seek_0 23 rfl) rfl (lv_at hl 4 rfl) ?_
    refine lv_iload G.hx G.hb (dcs_get dec_X1_seek_0 24 rfl) (lv_at hl 6 rfl) ?_
    obtain ⟨v2, h1, hf⟩ := cB_some hf
    refine a_i (k_VN (As := [.int l3, .int l5]) (rest := []) cls10 lb_X10_isAble lv_X10_isAble nm_921 (C_X10_isAble G.2.2.1 a2 l3 l5 σ h1 ok_a2) ⟨(Nat.le_of_ble_eq_true rfl), (Nat.le_of_ble_eq_true rfl)⟩ G w k_a2.1 k_a2.2 rfl rfl hl.1 (Nat.le_of_ble_eq_true rfl) (dcs_get dec_X1_seek_0 25 rfl) ⟨Nat.le_refl _, Nat.le_refl _⟩) G w (fun H locs w => ?_)
    refine lv_if_eq (tgt := 66) G.hx G.hb (dcs_get dec_X1_seek_0 26 rfl) (by decide) (fun hc => ?_) (fun hc => ?_)
    · rw [if_pos hc] at hf
      exact B_X1_seek_66  σ G hm  hf  w (lv_sub hl [] rfl)
    · rw [if_neg hc] at hf
      refine lv_aload_n G.hx G.hb (dcs_get dec_X1_seek_0 27 rfl) rfl (lv_at hl 3 rfl) ?_
      refine lv_aload_n G.hx G.hb (dcs_get dec_X1_seek_0 28 rfl) rfl (lv_at hl 2 rfl) ?_
      refine r_getiN (k := 8) cls7 fi_7_8.1 fi_7_8.2 nf_119 G w k_a1.1 k_a1.2 (dcs_get dec_X1_seek_0 29 rfl) ?_
      refine lv_iload_n G.hx G.hb (dcs_get dec_X1_seek_0 30 rfl) rfl (lv_at hl 4 rfl) ?_
      refine lv_iload G.hx G.hb (dcs_get dec_X1_seek_0 31 rfl) (lv_at hl 6 rfl) ?_
      refine lv_iconst (v := (0 : Int32)) G.hx G.hb (dcs_get dec_X1_seek_0 32 rfl) (by decide) ?_
      obtain ⟨v4, h3, hf⟩ := cB_some hf
      refine a_i (k_VN (As := [.int (σ.1 a1 8), .int l3, .int l5, .int (0 : Int32)]) (rest := []) cls10 lb_X10_isAnswer lv_X10_isAnswer nm_922 (C_X10_isAnswer G.2.2.1 a2 (σ.1 a1 8) l3 l5 (0 : Int32) σ h3 ok_a2) ⟨(Nat.le_of_ble_eq_true rfl), (Nat.le_of_ble_eq_true rfl)⟩ G w k_a2.1 k_a2.2 rfl rfl hl.1 (Nat.le_of_ble_eq_true rfl) (dcs_get dec_X1_seek_0 33 rfl) ⟨Nat.le_refl _, Nat.le_refl _⟩) G w (fun H locs w => ?_)
      refine lv_if_eq (tgt := 67) G.hx G.hb (dcs_get dec_X1_seek_0 34 rfl) (by decide) (fun hc => ?_) (fun hc => ?_)
      · rw [if_pos hc] at hf
        refine lv_aload_n G.hx G.hb (dcs_get dec_X1_seek_0 36 rfl) rfl (lv_at hl 1 rfl) ?_
        obtain ⟨z5, e_z5, ok_z5, hf⟩ := cR_some hf
        have k_z5 := okr_in ok_z5
        refine r_getr (k := 2) cls1 fi_1_2.1 fi_1_2.2 q_354 G w k_a0.1 k_a0.2 e_z5 (dcs_get dec_X1_seek_0 37 rfl) ?_
        refine lv_aload_n G.hx G.hb (dcs_get dec_X1_seek_0 38 rfl) rfl (lv_at hl 3 rfl) ?_
        obtain ⟨σ7, h6, hf⟩ := cB_some hf
        refine a_v (k_VN (As := [.ref (ad a2)]) (rest := []) cls10 lb_X10_copy lv_X10_copy nm_923 (C_X10_copy G.2.2.1 z5 a2 σ h6 ok_z5 ok_a2) ⟨(Nat.le_of_ble_eq_true rfl), (Nat.le_of_ble_eq_true rfl)⟩ G w k_z5.1 k_z5.2 rfl rfl hl.1 (Nat.le_of_ble_eq_true rfl) (dcs_get dec_X1_seek_0 39 rfl) ⟨Nat.le_refl _, Nat.le_refl _⟩) G w (fun H locs w => ?_)
        refine lv_aload_n G.hx G.hb (dcs_get dec_X1_seek_1 0 rfl) rfl (lv_at hl 1 rfl) ?_
        obtain ⟨z8, e_z8, ok_z8, hf⟩ := cR_some hf
        have k_z8 := okr_in ok_z8
        refine r_getr (k := 2) cls1 fi_1_2.1 fi_1_2.2 q_354 G w k_a0.1 k_a0.2 e_z8 (dcs_get dec_X1_seek_1 1 rfl) ?_
        refine lv_iload_n G.hx G.hb (dcs_get dec_X1_seek_1 2 rfl) rfl (lv_at hl 4 rfl) ?_
        refine lv_iload G.hx G.hb (dcs_get dec_X1_seek_1 3 rfl) (lv_at hl 6 rfl) ?_
        refine lv_iconst (v := (0 : Int32)) G.hx G.hb (dcs_get dec_X1_seek_1 4 rfl) (by decide) ?_
        refine lv_lload G.hx G.hb (dcs_get dec_X1_seek_1 5 rfl) (lv_at hl 7 rfl) ?_
        refine lv_iload_n G.hx G.hb (dcs_get dec_X1_seek_1 6 rfl) rfl (lv_at hl 4 rfl) ?_
        obtain ⟨v10, h9, hf⟩ := cB_some hf
        refine a_i (k_SN (As := [.long l6, .int l3]) (rest := [.int (0 : Int32), .int l5, .int l3, .ref (ad z8)]) lb_X11_hearersOf q_757 nm_920 (C_X11_hearersOf G.2.2.1 l6 l3 σ7 h9 ) ⟨(Nat.le_of_ble_eq_true rfl), (Nat.le_of_ble_eq_true rfl)⟩ G w rfl rfl hl.1 (Nat.le_of_ble_eq_true rfl) (dcs_get dec_X1_seek_1 7 rfl) ⟨Nat.le_refl _, Nat.le_refl _⟩) G w (fun H locs w => ?_)
        obtain ⟨σ12, h11, hf⟩ := cB_some hf
        refine a_v (k_VN (As := [.int l3, .int l5, .int (0 : Int32), .int v10]) (rest := []) cls10 lb_X10_drumByDay lv_X10_drumByDay nm_924 (C_X10_drumByDay G.2.2.1 z8 l3 l5 (0 : Int32) v10 σ7 h11 ok_z8) ⟨(Nat.le_of_ble_eq_true rfl), (Nat.le_of_ble_eq_true rfl)⟩ G w k_z8.1 k_z8.2 rfl rfl hl.1 (Nat.le_of_ble_eq_true rfl) (dcs_get dec_X1_seek_1 8 rfl) ⟨Nat.le_refl _, Nat.le_refl _⟩) G w (fun H locs w => ?_)
        refine lv_aload_n G.hx G.hb (dcs_get dec_X1_seek_1 9 rfl) rfl (lv_at hl 1 rfl) ?_
        obtain ⟨z13, e_z13, ok_z13, hf⟩ := cR_some hf
        have k_z13 := okr_in ok_z13
        refine r_getr (k := 0) cls1 fi_1_0.1 fi_1_0.2 q_350 G w k_a0.1 k_a0.2 e_z13 (dcs_get dec_X1_seek_1 10 rfl) ?_
        refine lv_iconst (v := (0 : Int32)) G.hx G.hb (dcs_get dec_X1_seek_1 11 rfl) (by decide) ?_
        refine lv_iload_n G.hx G.hb (dcs_get dec_X1_seek_1 12 rfl) rfl (lv_at hl 4 rfl) ?_
        refine lv_iload G.hx G.hb (dcs_get dec_X1_seek_1 13 rfl) (lv_at hl 6 rfl) ?_
        refine lv_iconst (v := (0 : Int32)) G.hx G.hb (dcs_get dec_X1_seek_1 14 rfl) (by decide) ?_
        obtain ⟨v15, h14, hf⟩ := cB_some hf
        refine a_i (k_S (As := [.int l3, .int l5, .int (0 : Int32)]) (rest := [.int (0 : Int32), .ref (ad z13)]) lb_X1_codeOf q_926 q_925 (C_X1_codeOf G.2.2.1 l3 l5 (0 : Int32) σ12 h14 ) ⟨(Nat.le_of_ble_eq_true rfl), (Nat.le_of_ble_eq_true rfl)⟩ G w rfl rfl hl.1 (Nat.le_of_ble_eq_true rfl) (dcs_get dec_X1_seek_1 15 rfl) ⟨Nat.le_refl _, Nat.le_refl _⟩) G w (fun H locs w => ?_)
        obtain ⟨h16, hf⟩ := cG_some hf
        obtain ⟨σ17, e_σ17, hf⟩ := cL_some hf
        refine r_iast G w k_z13.1 k_z13.2 h16 (dcs_get dec_X1_seek_1 16 rfl) (fun H locs w => ?_)
        have w := Wd.nm e_σ17 w
        refine lv_aload_n G.hx G.hb (dcs_get dec_X1_seek_1 17 rfl) rfl (lv_at hl 1 rfl) ?_
        obtain ⟨z18, e_z18, ok_z18, hf⟩ := cR_some hf
        have k_z18 := okr_in ok_z18
        refine r_getr (k := 0) cls1 fi_1_0.1 fi_1_0.2 q_350 G w k_a0.1 k_a0.2 e_z18 (dcs_get dec_X1_seek_1 18 rfl) ?_
        refine lv_iconst (v := (1 : Int32)) G.hx G.hb (dcs_get dec_X1_seek_1 19 rfl) (by decide) ?_
        refine lv_aload_n G.hx G.hb (dcs_get dec_X1_seek_1 20 rfl) rfl (lv_at hl 2 rfl) ?_
        refine lv_aload_n G.hx G.hb (dcs_get dec_X1_seek_1 21 rfl) rfl (lv_at hl 1 rfl) ?_
        obtain ⟨z19, e_z19, ok_z19, hf⟩ := cR_some hf
        have k_z19 := okr_in ok_z19
        refine r_getr (k := 2) cls1 fi_1_2.1 fi_1_2.2 q_354 G w k_a0.1 k_a0.2 e_z19 (dcs_get dec_X1_seek_1 22 rfl) ?_
        refine lv_iload G.hx G.hb (dcs_get dec_X1_seek_1 23 rfl) (lv_at hl 5 rfl) ?_
        refine lv_iload G.hx G.hb (dcs_get dec_X1_seek_1 24 rfl) (lv_at hl 6 rfl) ?_
        obtain ⟨v21, h20, hf⟩ := cB_some hf
        refine a_i (k_S (As := [.ref (ad a1), .ref (ad z19), .int l4, .int l5]) (rest := [.int (1 : Int32), .ref (ad z18)]) lb_X1_lastDrum q_929 q_928 (C_X1_lastDrum G.2.2.1 a1 z19 l4 l5 σ17 h20 ok_a1 ok_z19) ⟨(Nat.le_of_ble_eq_true rfl), (Nat.le_of_ble_eq_true rfl)⟩ G w rfl rfl hl.1 (Nat.le_of_ble_eq_true rfl) (dcs_get dec_X1_seek_1 25 rfl) ⟨Nat.le_refl _, Nat.le_refl _⟩) G w (fun H locs w => ?_)
        obtain ⟨h22, hf⟩ := cG_some hf
        obtain ⟨σ23, e_σ23, hf⟩ := cL_some hf
        refine r_iast G w k_z18.1 k_z18.2 h22 (dcs_get dec_X1_seek_1 26 rfl) (fun H locs w => ?_)
        have w := Wd.nm e_σ23 w
        refine lv_aload_n G.hx G.hb (dcs_get dec_X1_seek_1 27 rfl) rfl (lv_at hl 1 rfl) ?_
        obtain ⟨z24, e_z24, ok_z24, hf⟩ := cR_some hf
        have k_z24 := okr_in ok_z24
        refine r_getr (k := 0) cls1 fi_1_0.1 fi_1_0.2 q_350 G w k_a0.1 k_a0.2 e_z24 (dcs_get dec_X1_seek_1 28 rfl) ?_
        refine lv_iconst (v := (1 : Int32)) G.hx G.hb (dcs_get dec_X1_seek_1 29 rfl) (by decide) ?_
        obtain ⟨h25, hf⟩ := cG_some hf
        refine r_iald G w k_z24.1 k_z24.2 h25 (dcs_get dec_X1_seek_1 30 rfl) ?_
        refine lv_iconst (v := (-1 : Int32)) G.hx G.hb (dcs_get dec_X1_seek_1 31 rfl) (by decide) ?_
        refine lv_icmp_eq (tgt := 139) G.hx G.hb (dcs_get dec_X1_seek_1 32 rfl) (by decide) (fun hc => ?_) (fun hc => ?_)
        · rw [if_pos hc] at hf
          refine lv_aload_n G.hx G.hb (dcs_get dec_X1_seek_1 37 rfl) rfl (lv_at hl 1 rfl) ?_
          refine lv_aload_n G.hx G.hb (dcs_get dec_X1_seek_1 38 rfl) rfl (lv_at hl 2 rfl) ?_
          refine lv_iload G.hx G.hb (dcs_get dec_X1_seek_1 39 rfl) (lv_at hl 5 rfl) ?_
          refine lv_iload G.hx G.hb (dcs_get dec_X1_seek_2 0 rfl) (lv_at hl 6 rfl) ?_
          refine lv_lload G.hx G.hb (dcs_get dec_X1_seek_2 1 rfl) (lv_at hl 7 rfl) ?_
          obtain ⟨σ27, h26, hf⟩ := cB_some hf
          refine a_v (k_V (As := [.ref (ad a1), .int l4, .int l5, .long l6]) (rest := []) cls1 lb_X1_seekSecond lv_X1_seekSecond q_931 (C_X1_seekSecond G.2.2.1 a0 a1 l4 l5 l6 σ23 h26 ok_a0 ok_a1) ⟨(Nat.le_of_ble_eq_true rfl), (Nat.le_of_ble_eq_true rfl)⟩ G w k_a0.1 k_a0.2 rfl rfl hl.1 (Nat.le_of_ble_eq_true rfl) (dcs_get dec_X1_seek_2 2 rfl) ⟨Nat.le_refl _, Nat.le_refl _⟩) G w (fun H locs w => ?_)
          have e9 := Option.some.inj hf
          exact r_vret G w hm e9 (dcs_get dec_X1_seek_2 3 rfl)
        · rw [if_neg hc] at hf
          refine lv_aload_n G.hx G.hb (dcs_get dec_X1_seek_1 33 rfl) rfl (lv_at hl 1 rfl) ?_
          refine lv_iconst (v := (2 : Int32)) G.hx G.hb (dcs_get dec_X1_seek_1 34 rfl) (by decide) ?_
          obtain ⟨σ28, e_σ28, hf⟩ := cL_some hf
          refine r_puti (k := 1) cls1 ct1 fi_1_1.1 fi_1_1.2 fp_1_1.1 fp_1_1.2 q_352 rfl rfl G w k_a0.1 k_a0.2 (dcs_get dec_X1_seek_1 35 rfl) (fun H locs w => ?_)
          have w := Wd.nm e_σ28 w
          have e9 := Option.some.inj hf
          exact r_vret G w hm e9 (dcs_get dec_X1_seek_1 36 rfl)
      · rw [if_neg hc] at hf
        exact B_X1_seek_66  σ G hm  hf  w (lv_sub hl [] rfl)
set_option maxRecDepth 100000 in
set_option maxHeartbeats 4000000 in
theorem B_X1_seek_0 {H : Heap} {locs : List Loc} {ls : Array Slot} {σ0 : hSt} (a0 : Nat) (a1 : Nat) (a2 : Nat) (l3 : Int32) (l4 : Int32) (l5 : Int32) (σ : hSt) (G : Gx p m c cX1_seek 9 s args RX1 D ay NC ad (aN NC ad)) (hm : meth.sig.returnType = none ∧ meth.locks = false) (ok_a0 : okr kC NC 1 a0 = true) (ok_a1 : okr kC NC 7 a1 = true) (ok_a2 : okr kC NC 10 a2 = true) (hf : F_X1_seek a0 a1 a2 l3 l4 l5 σ = some σ0)  (w : Wd D ay kC NC ad (aN NC ad) s σ H locs) (hl : lv_has ls 9 [(0, .ref (ad a0)), (1, .ref (ad a1)), (2, .ref (ad a2)), (3, .int l3), (4, .int l4), (5, .int l5)]) : W p l e (rmK 5 117) s m args below meth c H locs 0 0 (MQ below (cV D ay kC NC ad σ0) args s 0 0 (aN NC ad)) (F0 m 0 ls []) := by
  have k_a0 := okr_in ok_a0
  have k_a1 := okr_in ok_a1
  have k_a2 := okr_in ok_a2
  unfold F_X1_seek at hf
  refine lv_aload_n G.hx G.hb (dcs_get dec_X1_seek_0 0 rfl) rfl (lv_at hl 0 rfl) ?_
  refine lv_iconst (v := (0 : Int32)) G.hx G.hb (dcs_get dec_X1_seek_0 1 rfl) (by decide) ?_
  obtain ⟨σ29, e_σ29, hf⟩ := cL_some hf
  refine r_puti (k := 1) cls1 ct1 fi_1_1.1 fi_1_1.2 fp_1_1.1 fp_1_1.2 q_352 rfl rfl G w k_a0.1 k_a0.2 (dcs_get dec_X1_seek_0 2 rfl) (fun H locs w => ?_)
  have w := Wd.nm e_σ29 w
  refine lv_aload_n G.hx G.hb (dcs_get dec_X1_seek_0 3 rfl) rfl (lv_at hl 1 rfl) ?_
  refine lv_aload_n G.hx G.hb (dcs_get dec_X1_seek_0 4 rfl) rfl (lv_at hl 2 rfl) ?_
  refine r_getiN (k := 0) cls10 fi_10_0.1 fi_10_0.2 nf_234 G w k_a2.1 k_a2.2 (dcs_get dec_X1_seek_0 5 rfl) ?_
  obtain ⟨v31, σ32, h30, hf⟩ := cC_some hf
  refine a_l (k_VN (As := [.int (σ29.1 a2 0)]) (rest := []) cls7 lb_X7_heardOn lv_X7_heardOn nm_919 (C_X7_heardOn G.2.2.1 a1 (σ29.1 a2 0) σ29 h30 ok_a1) ⟨(Nat.le_of_ble_eq_true rfl), (Nat.le_of_ble_eq_true rfl)⟩ G w k_a1.1 k_a1.2 rfl rfl hl.1 (Nat.le_of_ble_eq_true rfl) (dcs_get dec_X1_seek_0 6 rfl) ⟨Nat.le_refl _, Nat.le_refl _⟩) G w (fun H locs w => ?_)
  refine lv_lstore (lv' := [(6, .long v31), (0, .ref (ad a0)), (1, .ref (ad a1)), (2, .ref (ad a2)), (3, .int l3), (4, .int l4), (5, .int l5)]) G.hx G.hb (dcs_get dec_X1_seek_0 7 rfl) hl (by decide) rfl (fun ls hl => ?_)
  refine lv_lload G.hx G.hb (dcs_get dec_X1_seek_0 8 rfl) (lv_at hl 0 rfl) ?_
  refine lv_iload G.hx G.hb (dcs_get dec_X1_seek_0 9 rfl) (lv_at hl 5 rfl) ?_
  obtain ⟨v34, h33, hf⟩ := cB_some hf
  refine a_i (k_SN (As := [.long v31, .int l4]) (rest := []) lb_X11_hearersOf q_757 nm_920 (C_X11_hearersOf G.2.2.1 v31 l4 σ32 h33 ) ⟨(Nat.le_of_ble_eq_true rfl), (Nat.le_of_ble_eq_true rfl)⟩ G w rfl rfl hl.1 (Nat.le_of_ble_eq_true rfl) (dcs_get dec_X1_seek_0 10 rfl) ⟨Nat.le_refl _, Nat.le_refl _⟩) G w (fun H locs w => ?_)
  refine lv_iload_n G.hx G.hb (dcs_get dec_X1_seek_0 11 rfl) rfl (lv_at hl 4 rfl) ?_
  refine lv_ishr G.hx G.hb (dcs_get dec_X1_seek_0 12 rfl) ?_
  refine lv_iconst (v := (1 : Int32)) G.hx G.hb (dcs_get dec_X1_seek_0 13 rfl) (by decide) ?_
  refine lv_iand G.hx G.hb (dcs_get dec_X1_seek_0 14 rfl) ?_
  refine lv_if_eq (tgt := 33) G.hx G.hb (dcs_get dec_X1_seek_0 15 rfl) (by decide) (fun hc => ?_) (fun hc => ?_)
  · rw [if_pos hc] at hf
    refine lv_iconst (v := (0 : Int32)) G.hx G.hb (dcs_get dec_X1_seek_0 18 rfl) (by decide) ?_
    exact B_X1_seek_34 a0 a1 a2 l3 l4 l5 v31 (0 : Int32) σ32 G hm ok_a0 ok_a1 ok_a2 hf  w (lv_sub hl [1, 2, 3, 4, 5, 6, 0] rfl)
  · rw [if_neg hc] at hf
    refine lv_iconst (v := (1 : Int32)) G.hx G.hb (dcs_get dec_X1_seek_0 16 rfl) (by decide) ?_
    refine lv_goto (tgt := 34) G.hx G.hb (dcs_get dec_X1_seek_0 17 rfl) (by decide) ?_
    exact B_X1_seek_34 a0 a1 a2 l3 l4 l5 v31 (1 : Int32) σ32 G hm ok_a0 ok_a1 ok_a2 hf  w (lv_sub hl [1, 2, 3, 4, 5, 6, 0] rfl)
end
set_option maxRecDepth 100000 in
set_option maxHeartbeats 4000000 in
theorem C_X1_seek {l : Launch} {D : va_G} {ay : Nat → ClassId} {ad : Nat → Nat} (hi : hInj NC ad) (a0 : Nat) (a1 : Nat) (a2 : Nat) (l3 : Int32) (l4 : Int32) (l5 : Int32) (σ : hSt) {σ0 : hSt} (hf : F_X1_seek a0 a1 a2 l3 l4 l5 σ = some σ0) (ok_a0 : okr kC NC 1 a0 = true) (ok_a1 : okr kC NC 7 a1 = true) (ok_a2 : okr kC NC 10 a2 = true) : hM l D ay kC NC ad yX1_seek cX1_seek 9 (none) (rmK 5 117) [.ref (ad a0), .ref (ad a1), .ref (ad a2), .int l3, .int l4, .int l5] σ (cV D ay kC NC ad σ0) := by
  refine hM_in (by decide) hi (Nat.le_of_ble_eq_true rfl) ?_
  intro p e s m below meth c G hm w ls hl
  exact B_X1_seek_0 a0 a1 a2 l3 l4 l5 σ G hm ok_a0 ok_a1 ok_a2 hf w (lv_sub hl [0, 1, 2, 3, 4, 5] rfl)

/-! HillDrums.Past.push(LHillDrums$World;)V -/
def DL_X2_push_0 : List (Nat × Instr × Nat) := [(0, .aload_n 0, 1), (1, .getfield 17, 3), (4, .ifCond .lt 24, 3), (7, .aload_n 0, 1), (8, .getfield 17, 3), (11, .bipush 40, 2), (13, .if_icmp .ge 15, 3), (16, .aload_n 0, 1), (17, .getfield 11, 3), (20, .aload_n 0, 1), (21, .getfield 17, 3), (24, .aaload, 1), (25, .ifnonnull 4, 3), (28, .return_, 1), (29, .aload_n 0, 1), (30, .getfield 11, 3), (33, .aload_n 0, 1), (34, .getfield 17, 3), (37, .aaload, 1), (38, .aload_n 1, 1), (39, .invokevirtual 25, 3), (42, .aload_n 0, 1), (43, .aload_n 0, 1), (44, .getfield 17, 3), (47, .iconst 1, 1), (48, .iadd, 1), (49, .bipush 40, 2), (51, .irem, 1), (52, .putfield 17, 3), (55, .aload_n 0, 1), (56, .aload_n 0, 1), (57, .getfield 21, 3), (60, .iconst 1, 1), (61, .iadd, 1), (62, .bipush 40, 2), (64, .invokestatic 29, 3), (67, .putfield 21, 3), (70, .return_, 1)]
set_option maxRecDepth 100000 in
theorem dec_X2_push_0 : dcs cX2_push DL_X2_push_0 = true := by decide +kernel
theorem lb_X2_push : lkB yX2_push cX2_push 2 (none) 1 := ⟨q_762, q_9, ⟨by decide, by decide⟩, by decide +kernel⟩
theorem lv_X2_push : lkV yX2_push := ⟨q_761, qs_43⟩
def F_X2_push_28  (σ : hSt) : Option (hSt) :=
some (σ)
def F_X2_push (a0 : Nat) (a1 : Nat) (σ : hSt) : Option (hSt) :=
if (σ.1 a0 1) < 0 then (
F_X2_push_28  σ) else (
if (40 : Int32) ≤ (σ.1 a0 1) then (
F_X2_push_28  σ) else (
cR (σ.2.2 a0 0) (okr kC NC 105) fun z1 =>
cG (inb (σ.1 a0 1) (kC z1).2) <|
cR (σ.2.2 z1 (σ.1 a0 1).toNatClampNeg) (okr kC NC 10) fun z3 =>
cR (σ.2.2 a0 0) (okr kC NC 105) fun z4 =>
cG (inb (σ.1 a0 1) (kC z4).2) <|
cR (σ.2.2 z4 (σ.1 a0 1).toNatClampNeg) (okr kC NC 10) fun z6 =>
(F_X10_copy z6 a1 σ).bind fun σ8 =>
cG (!decide ((40 : Int32) = 0)) <|
cL (uI σ8 a0 1 (((σ8.1 a0 1) + (1 : Int32)) - ((σ8.1 a0 1) + (1 : Int32)) / (40 : Int32) * (40 : Int32))) fun σ10 =>
cL (uI σ10 a0 2 (if (40 : Int32) < ((σ10.1 a0 2) + (1 : Int32)) then (40 : Int32) else ((σ10.1 a0 2) + (1 : Int32)))) fun σ11 =>
some (σ11)))
section
variable {p : Program} {l : Launch} {e : Env} {s : State} {m : MethodId} {args : Array Value} {below : List Frame} {meth : Method} {c : Code} {D : va_G} {ay : Nat → ClassId} {ad : Nat → Nat}
set_option maxRecDepth 100000 in
set_option maxHeartbeats 4000000 in
theorem B_X2_push_28 {H : Heap} {locs : List Loc} {ls : Array Slot} {σ0 : hSt}  (σ : hSt) (G : Gx p m c cX2_push 2 s args RX2 D ay NC ad (aN NC ad)) (hm : meth.sig.returnType = none ∧ meth.locks = false)  (hf : F_X2_push_28  σ = some σ0)  (w : Wd D ay kC NC ad (aN NC ad) s σ H locs) (hl : lv_has ls 2 []) : W p l e (rmK 2 81) s m args below meth c H locs 0 0 (MQ below (cV D ay kC NC ad σ0) args s 0 0 (aN NC ad)) (F0 m 28 ls []) := by
  unfold F_X2_push_28 at hf
  have e9 := Option.some.inj hf
  exact r_vret G w hm e9 (dcs_get dec_X2_push_0 13 rfl)
set_option maxRecDepth 100000 in
set_option maxHeartbeats 4000000 in
theorem B_X2_push_0 {H : Heap} {locs : List Loc} {ls : Array Slot} {σ0 : hSt} (a0 : Nat) (a1 : Nat) (σ : hSt) (G : Gx p m c cX2_push 2 s args RX2 D ay NC ad (aN NC ad)) (hm : meth.sig.returnType = none ∧ meth.locks = false) (ok_a0 : okr kC NC 2 a0 = true) (ok_a1 : okr kC NC 10 a1 = true) (hf : F_X2_push a0 a1 σ = some σ0)  (w : Wd D ay kC NC ad (aN NC ad) s σ H locs) (hl : lv_has ls 2 [(0, .ref (ad a0)), (1, .ref (ad a1))]) : W p l e (rmK 2 81) s m args below meth c H locs 0 0 (MQ below (cV D ay kC NC ad σ0) args s 0 0 (aN NC ad)) (F0 m 0 ls []) := by
  have k_a0 := okr_in ok_a0
  have k_a1 := okr_in ok_a1
  unfold F_X2_push at hf
  refine lv_aload_n G.hx G.hb (dcs_get dec_X2_push_0 0 rfl) rfl (lv_at hl 0 rfl) ?_
  refine r_geti (k := 1) cls2 fi_2_1.1 fi_2_1.2 q_292 G w k_a0.1 k_a0.2 (dcs_get dec_X2_push_0 1 rfl) ?_
  refine lv_if_lt (tgt := 28) G.hx G.hb (dcs_get dec_X2_push_0 2 rfl) (by decide) (fun hc => ?_) (fun hc => ?_)
  · rw [if_pos hc] at hf
    exact B_X2_push_28  σ G hm  hf  w (lv_sub hl [] rfl)
  · rw [if_neg hc] at hf
    refine lv_aload_n G.hx G.hb (dcs_get dec_X2_push_0 3 rfl) rfl (lv_at hl 0 rfl) ?_
    refine r_geti (k := 1) cls2 fi_2_1.1 fi_2_1.2 q_292 G w k_a0.1 k_a0.2 (dcs_get dec_X2_push_0 4 rfl) ?_
    refine lv_bipush (v := (40 : Int32)) G.hx G.hb (dcs_get dec_X2_push_0 5 rfl) (by decide) ?_
    refine lv_icmp_ge (tgt := 28) G.hx G.hb (dcs_get dec_X2_push_0 6 rfl) (by decide) (fun hc => ?_) (fun hc => ?_)
    · rw [if_pos hc] at hf
      exact B_X2_push_28  σ G hm  hf  w (lv_sub hl [] rfl)
    · rw [if_neg hc] at hf
      refine lv_aload_n G.hx G.hb (dcs_get dec_X2_push_0 7 rfl) rfl (lv_at hl 0 rfl) ?_
      obtain ⟨z1, e_z1, ok_z1, hf⟩ := cR_some hf
      have k_z1 := okr_in ok_z1
      refine r_getr (k := 0) cls2 fi_2_0.1 fi_2_0.2 q_291 G w k_a0.1 k_a0.2 e_z1 (dcs_get dec_X2_push_0 8 rfl) ?_
      refine lv_aload_n G.hx G.hb (dcs_get dec_X2_push_0 9 rfl) rfl (lv_at hl 0 rfl) ?_
      refine r_geti (k := 1) cls2 fi_2_1.1 fi_2_1.2 q_292 G w k_a0.1 k_a0.2 (dcs_get dec_X2_push_0 10 rfl) ?_
      obtain ⟨h2, hf⟩ := cG_some hf
      obtain ⟨z3, e_z3, ok_z3, hf⟩ := cR_some hf
      have k_z3 := okr_in ok_z3
      refine r_aald G w k_z1.1 k_z1.2 h2 e_z3 (dcs_get dec_X2_push_0 11 rfl) ?_
      refine lv_ifnonnull (tgt := 29) G.hx G.hb (dcs_get dec_X2_push_0 12 rfl) (by decide) ?_
      refine lv_aload_n G.hx G.hb (dcs_get dec_X2_push_0 14 rfl) rfl (lv_at hl 0 rfl) ?_
      obtain ⟨z4, e_z4, ok_z4, hf⟩ := cR_some hf
      have k_z4 := okr_in ok_z4
      refine r_getr (k := 0) cls2 fi_2_0.1 fi_2_0.2 q_291 G w k_a0.1 k_a0.2 e_z4 (dcs_get dec_X2_push_0 15 rfl) ?_
      refine lv_aload_n G.hx G.hb (dcs_get dec_X2_push_0 16 rfl) rfl (lv_at hl 0 rfl) ?_
      refine r_geti (k := 1) cls2 fi_2_1.1 fi_2_1.2 q_292 G w k_a0.1 k_a0.2 (dcs_get dec_X2_push_0 17 rfl) ?_
      obtain ⟨h5, hf⟩ := cG_some hf
      obtain ⟨z6, e_z6, ok_z6, hf⟩ := cR_some hf
      have k_z6 := okr_in ok_z6
      refine r_aald G w k_z4.1 k_z4.2 h5 e_z6 (dcs_get dec_X2_push_0 18 rfl) ?_
      refine lv_aload_n G.hx G.hb (dcs_get dec_X2_push_0 19 rfl) rfl (lv_at hl 1 rfl) ?_
      obtain ⟨σ8, h7, hf⟩ := cB_some hf
      refine a_v (k_VN (As := [.ref (ad a1)]) (rest := []) cls10 lb_X10_copy lv_X10_copy nm_763 (C_X10_copy G.2.2.1 z6 a1 σ h7 ok_z6 ok_a1) ⟨(Nat.le_of_ble_eq_true rfl), (Nat.le_of_ble_eq_true rfl)⟩ G w k_z6.1 k_z6.2 rfl rfl hl.1 (Nat.le_of_ble_eq_true rfl) (dcs_get dec_X2_push_0 20 rfl) ⟨Nat.le_refl _, Nat.le_refl _⟩) G w (fun H locs w => ?_)
      refine lv_aload_n G.hx G.hb (dcs_get dec_X2_push_0 21 rfl) rfl (lv_at hl 0 rfl) ?_
      refine lv_aload_n G.hx G.hb (dcs_get dec_X2_push_0 22 rfl) rfl (lv_at hl 0 rfl) ?_
      refine r_geti (k := 1) cls2 fi_2_1.1 fi_2_1.2 q_292 G w k_a0.1 k_a0.2 (dcs_get dec_X2_push_0 23 rfl) ?_
      refine lv_iconst (v := (1 : Int32)) G.hx G.hb (dcs_get dec_X2_push_0 24 rfl) (by decide) ?_
      refine lv_iadd G.hx G.hb (dcs_get dec_X2_push_0 25 rfl) ?_
      refine lv_bipush (v := (40 : Int32)) G.hx G.hb (dcs_get dec_X2_push_0 26 rfl) (by decide) ?_
      obtain ⟨h9, hf⟩ := cG_some hf
      refine lv_irem G.hx G.hb (dcs_get dec_X2_push_0 27 rfl) (by simpa using h9) ?_
      obtain ⟨σ10, e_σ10, hf⟩ := cL_some hf
      refine r_puti (k := 1) cls2 ct2 fi_2_1.1 fi_2_1.2 fp_2_1.1 fp_2_1.2 q_292 rfl rfl G w k_a0.1 k_a0.2 (dcs_get dec_X2_push_0 28 rfl) (fun H locs w => ?_)
      have w := Wd.nm e_σ10 w
      refine lv_aload_n G.hx G.hb (dcs_get dec_X2_push_0 29 rfl) rfl (lv_at hl 0 rfl) ?_
      refine lv_aload_n G.hx G.hb (dcs_get dec_X2_push_0 30 rfl) rfl (lv_at hl 0 rfl) ?_
      refine r_geti (k := 2) cls2 fi_2_2.1 fi_2_2.2 q_293 G w k_a0.1 k_a0.2 (dcs_get dec_X2_push_0 31 rfl) ?_
      refine lv_iconst (v := (1 : Int32)) G.hx G.hb (dcs_get dec_X2_push_0 32 rfl) (by decide) ?_
      refine lv_iadd G.hx G.hb (dcs_get dec_X2_push_0 33 rfl) ?_
      refine lv_bipush (v := (40 : Int32)) G.hx G.hb (dcs_get dec_X2_push_0 34 rfl) (by decide) ?_
      refine r_min q_770 q_557 q_19 q_558 ⟨(Nat.le_of_ble_eq_true rfl), (Nat.le_of_ble_eq_true rfl)⟩ ⟨Nat.le_refl _, Nat.le_refl _⟩ G hl.1 (dcs_get dec_X2_push_0 35 rfl) ?_
      obtain ⟨σ11, e_σ11, hf⟩ := cL_some hf
      refine r_puti (k := 2) cls2 ct2 fi_2_2.1 fi_2_2.2 fp_2_2.1 fp_2_2.2 q_293 rfl rfl G w k_a0.1 k_a0.2 (dcs_get dec_X2_push_0 36 rfl) (fun H locs w => ?_)
      have w := Wd.nm e_σ11 w
      have e9 := Option.some.inj hf
      exact r_vret G w hm e9 (dcs_get dec_X2_push_0 37 rfl)
end
set_option maxRecDepth 100000 in
set_option maxHeartbeats 4000000 in
theorem C_X2_push {l : Launch} {D : va_G} {ay : Nat → ClassId} {ad : Nat → Nat} (hi : hInj NC ad) (a0 : Nat) (a1 : Nat) (σ : hSt) {σ0 : hSt} (hf : F_X2_push a0 a1 σ = some σ0) (ok_a0 : okr kC NC 2 a0 = true) (ok_a1 : okr kC NC 10 a1 = true) : hM l D ay kC NC ad yX2_push cX2_push 2 (none) (rmK 2 81) [.ref (ad a0), .ref (ad a1)] σ (cV D ay kC NC ad σ0) := by
  refine hM_in (by decide) hi (Nat.le_of_ble_eq_true rfl) ?_
  intro p e s m below meth c G hm w ls hl
  exact B_X2_push_0 a0 a1 σ G hm ok_a0 ok_a1 hf w (lv_sub hl [0, 1] rfl)

/-! HillDrums.Past.pop(LHillDrums$World;)Z -/
def DL_X2_pop_0 : List (Nat × Instr × Nat) := [(0, .aload_n 0, 1), (1, .getfield 17, 3), (4, .bipush 40, 2), (6, .iadd, 1), (7, .iconst 1, 1), (8, .isub, 1), (9, .bipush 40, 2), (11, .irem, 1), (12, .istore_n 2, 1), (13, .aload_n 0, 1), (14, .getfield 21, 3), (17, .ifCond .eq 16, 3), (20, .iload_n 2, 1), (21, .ifCond .lt 12, 3), (24, .aload_n 0, 1), (25, .getfield 11, 3), (28, .iload_n 2, 1), (29, .aaload, 1), (30, .ifnonnull 5, 3), (33, .iconst 0, 1), (34, .ireturn, 1), (35, .aload_n 1, 1), (36, .aload_n 0, 1), (37, .getfield 11, 3), (40, .iload_n 2, 1), (41, .aaload, 1), (42, .invokevirtual 25, 3), (45, .aload_n 0, 1), (46, .iload_n 2, 1), (47, .putfield 17, 3), (50, .aload_n 0, 1), (51, .dup, 1), (52, .getfield 21, 3), (55, .iconst 1, 1), (56, .isub, 1), (57, .putfield 21, 3), (60, .iconst 1, 1), (61, .ireturn, 1)]
set_option maxRecDepth 100000 in
theorem dec_X2_pop_0 : dcs cX2_pop DL_X2_pop_0 = true := by decide +kernel
theorem lb_X2_pop : lkB yX2_pop cX2_pop 3 ((some .boolean)) 1 := ⟨q_823, q_9, ⟨by decide, by decide⟩, by decide +kernel⟩
theorem lv_X2_pop : lkV yX2_pop := ⟨q_822, qs_50⟩
def F_X2_pop_33  (σ : hSt) : Option (Int32 × hSt) :=
some (((0 : Int32), σ))
def F_X2_pop (a0 : Nat) (a1 : Nat) (σ : hSt) : Option (Int32 × hSt) :=
cG (!decide ((40 : Int32) = 0)) <|
cL ((((σ.1 a0 1) + (40 : Int32)) - (1 : Int32)) - (((σ.1 a0 1) + (40 : Int32)) - (1 : Int32)) / (40 : Int32) * (40 : Int32)) fun v2 =>
if (σ.1 a0 2) = 0 then (
F_X2_pop_33  σ) else (
if v2 < 0 then (
F_X2_pop_33  σ) else (
cR (σ.2.2 a0 0) (okr kC NC 105) fun z3 =>
cG (inb v2 (kC z3).2) <|
cR (σ.2.2 z3 v2.toNatClampNeg) (okr kC NC 10) fun z5 =>
cR (σ.2.2 a0 0) (okr kC NC 105) fun z6 =>
cG (inb v2 (kC z6).2) <|
cR (σ.2.2 z6 v2.toNatClampNeg) (okr kC NC 10) fun z8 =>
(F_X10_copy a1 z8 σ).bind fun σ10 =>
cL (uI σ10 a0 1 v2) fun σ11 =>
cL (uI σ11 a0 2 ((σ11.1 a0 2) - (1 : Int32))) fun σ12 =>
some (((1 : Int32), σ12))))
section
variable {p : Program} {l : Launch} {e : Env} {s : State} {m : MethodId} {args : Array Value} {below : List Frame} {meth : Method} {c : Code} {D : va_G} {ay : Nat → ClassId} {ad : Nat → Nat}
set_option maxRecDepth 100000 in
set_option maxHeartbeats 4000000 in
theorem B_X2_pop_33 {H : Heap} {locs : List Loc} {ls : Array Slot} {r0 : Int32} {σ0 : hSt}  (σ : hSt) (G : Gx p m c cX2_pop 3 s args RX2 D ay NC ad (aN NC ad)) (hm : meth.sig.returnType = (some .boolean) ∧ meth.locks = false)  (hf : F_X2_pop_33  σ = some (r0, σ0))  (w : Wd D ay kC NC ad (aN NC ad) s σ H locs) (hl : lv_has ls 3 []) : W p l e (rmK 2 81) s m args below meth c H locs 0 0 (MQ below (cI D ay kC NC ad r0 σ0) args s 0 0 (aN NC ad)) (F0 m 33 ls []) := by
  unfold F_X2_pop_33 at hf
  refine lv_iconst (v := (0 : Int32)) G.hx G.hb (dcs_get dec_X2_pop_0 19 rfl) (by decide) ?_
  have e9 := Option.some.inj hf
  exact r_zret rfl G w hm (congrArg Prod.fst e9) (congrArg Prod.snd e9) (dcs_get dec_X2_pop_0 20 rfl)
set_option maxRecDepth 100000 in
set_option maxHeartbeats 4000000 in
theorem B_X2_pop_0 {H : Heap} {locs : List Loc} {ls : Array Slot} {r0 : Int32} {σ0 : hSt} (a0 : Nat) (a1 : Nat) (σ : hSt) (G : Gx p m c cX2_pop 3 s args RX2 D ay NC ad (aN NC ad)) (hm : meth.sig.returnType = (some .boolean) ∧ meth.locks = false) (ok_a0 : okr kC NC 2 a0 = true) (ok_a1 : okr kC NC 10 a1 = true) (hf : F_X2_pop a0 a1 σ = some (r0, σ0))  (w : Wd D ay kC NC ad (aN NC ad) s σ H locs) (hl : lv_has ls 3 [(0, .ref (ad a0)), (1, .ref (ad a1))]) : W p l e (rmK 2 81) s m args below meth c H locs 0 0 (MQ below (cI D ay kC NC ad r0 σ0) args s 0 0 (aN NC ad)) (F0 m 0 ls []) := by
  have k_a0 := okr_in ok_a0
  have k_a1 := okr_in ok_a1
  unfold F_X2_pop at hf
  refine lv_aload_n G.hx G.hb (dcs_get dec_X2_pop_0 0 rfl) rfl (lv_at hl 0 rfl) ?_
  refine r_geti (k := 1) cls2 fi_2_1.1 fi_2_1.2 q_292 G w k_a0.1 k_a0.2 (dcs_get dec_X2_pop_0 1 rfl) ?_
  refine lv_bipush (v := (40 : Int32)) G.hx G.hb (dcs_get dec_X2_pop_0 2 rfl) (by decide) ?_
  refine lv_iadd G.hx G.hb (dcs_get dec_X2_pop_0 3 rfl) ?_
  refine lv_iconst (v := (1 : Int32)) G.hx G.hb (dcs_get dec_X2_pop_0 4 rfl) (by decide) ?_
  refine lv_isub G.hx G.hb (dcs_get dec_X2_pop_0 5 rfl) ?_
  refine lv_bipush (v := (40 : Int32)) G.hx G.hb (dcs_get dec_X2_pop_0 6 rfl) (by decide) ?_
  obtain ⟨h1, hf⟩ := cG_some hf
  refine lv_irem G.hx G.hb (dcs_get dec_X2_pop_0 7 rfl) (by simpa using h1) ?_
  obtain ⟨v2, e_v2, hf⟩ := cL_some hf
  refine r_topi e_v2 ?_
  refine lv_istore_n (lv' := [(2, .int v2), (0, .ref (ad a0)), (1, .ref (ad a1))]) G.hx G.hb (dcs_get dec_X2_pop_0 8 rfl) rfl hl (by decide) rfl (fun ls hl => ?_)
  refine lv_aload_n G.hx G.hb (dcs_get dec_X2_pop_0 9 rfl) rfl (lv_at hl 1 rfl) ?_
  refine r_geti (k := 2) cls2 fi_2_2.1 fi_2_2.2 q_293 G w k_a0.1 k_a0.2 (dcs_get dec_X2_pop_0 10 rfl) ?_
  refine lv_if_eq (tgt := 33) G.hx G.hb (dcs_get dec_X2_pop_0 11 rfl) (by decide) (fun hc => ?_) (fun hc => ?_)
  · rw [if_pos hc] at hf
    exact B_X2_pop_33  σ G hm  hf  w (lv_sub hl [] rfl)
  · rw [if_neg hc] at hf
    refine lv_iload_n G.hx G.hb (dcs_get dec_X2_pop_0 12 rfl) rfl (lv_at hl 0 rfl) ?_
    refine lv_if_lt (tgt := 33) G.hx G.hb (dcs_get dec_X2_pop_0 13 rfl) (by decide) (fun hc => ?_) (fun hc => ?_)
    · rw [if_pos hc] at hf
      exact B_X2_pop_33  σ G hm  hf  w (lv_sub hl [] rfl)
    · rw [if_neg hc] at hf
      refine lv_aload_n G.hx G.hb (dcs_get dec_X2_pop_0 14 rfl) rfl (lv_at hl 1 rfl) ?_
      obtain ⟨z3, e_z3, ok_z3, hf⟩ := cR_some hf
      have k_z3 := okr_in ok_z3
      refine r_getr (k := 0) cls2 fi_2_0.1 fi_2_0.2 q_291 G w k_a0.1 k_a0.2 e_z3 (dcs_get dec_X2_pop_0 15 rfl) ?_
      refine lv_iload_n G.hx G.hb (dcs_get dec_X2_pop_0 16 rfl) rfl (lv_at hl 0 rfl) ?_
      obtain ⟨h4, hf⟩ := cG_some hf
      obtain ⟨z5, e_z5, ok_z5, hf⟩ := cR_some hf
      have k_z5 := okr_in ok_z5
      refine r_aald G w k_z3.1 k_z3.2 h4 e_z5 (dcs_get dec_X2_pop_0 17 rfl) ?_
      refine lv_ifnonnull (tgt := 35) G.hx G.hb (dcs_get dec_X2_pop_0 18 rfl) (by decide) ?_
      refine lv_aload_n G.hx G.hb (dcs_get dec_X2_pop_0 21 rfl) rfl (lv_at hl 2 rfl) ?_
      refine lv_aload_n G.hx G.hb (dcs_get dec_X2_pop_0 22 rfl) rfl (lv_at hl 1 rfl) ?_
      obtain ⟨z6, e_z6, ok_z6, hf⟩ := cR_some hf
      have k_z6 := okr_in ok_z6
      refine r_getr (k := 0) cls2 fi_2_0.1 fi_2_0.2 q_291 G w k_a0.1 k_a0.2 e_z6 (dcs_get dec_X2_pop_0 23 rfl) ?_
      refine lv_iload_n G.hx G.hb (dcs_get dec_X2_pop_0 24 rfl) rfl (lv_at hl 0 rfl) ?_
      obtain ⟨h7, hf⟩ := cG_some hf
      obtain ⟨z8, e_z8, ok_z8, hf⟩ := cR_some hf
      have k_z8 := okr_in ok_z8
      refine r_aald G w k_z6.1 k_z6.2 h7 e_z8 (dcs_get dec_X2_pop_0 25 rfl) ?_
      obtain ⟨σ10, h9, hf⟩ := cB_some hf
      refine a_v (k_VN (As := [.ref (ad z8)]) (rest := []) cls10 lb_X10_copy lv_X10_copy nm_763 (C_X10_copy G.2.2.1 a1 z8 σ h9 ok_a1 ok_z8) ⟨(Nat.le_of_ble_eq_true rfl), (Nat.le_of_ble_eq_true rfl)⟩ G w k_a1.1 k_a1.2 rfl rfl hl.1 (Nat.le_of_ble_eq_true rfl) (dcs_get dec_X2_pop_0 26 rfl) ⟨Nat.le_refl _, Nat.le_refl _⟩) G w (fun H locs w => ?_)
      refine lv_aload_n G.hx G.hb (dcs_get dec_X2_pop_0 27 rfl) rfl (lv_at hl 1 rfl) ?_
      refine lv_iload_n G.hx G.hb (dcs_get dec_X2_pop_0 28 rfl) rfl (lv_at hl 0 rfl) ?_
      obtain ⟨σ11, e_σ11, hf⟩ := cL_some hf
      refine r_puti (k := 1) cls2 ct2 fi_2_1.1 fi_2_1.2 fp_2_1.1 fp_2_1.2 q_292 rfl rfl G w k_a0.1 k_a0.2 (dcs_get dec_X2_pop_0 29 rfl) (fun H locs w => ?_)
      have w := Wd.nm e_σ11 w
      refine lv_aload_n G.hx G.hb (dcs_get dec_X2_pop_0 30 rfl) rfl (lv_at hl 1 rfl) ?_
      refine lv_dup G.hx G.hb (dcs_get dec_X2_pop_0 31 rfl) rfl ?_
      refine r_geti (k := 2) cls2 fi_2_2.1 fi_2_2.2 q_293 G w k_a0.1 k_a0.2 (dcs_get dec_X2_pop_0 32 rfl) ?_
      refine lv_iconst (v := (1 : Int32)) G.hx G.hb (dcs_get dec_X2_pop_0 33 rfl) (by decide) ?_
      refine lv_isub G.hx G.hb (dcs_get dec_X2_pop_0 34 rfl) ?_
      obtain ⟨σ12, e_σ12, hf⟩ := cL_some hf
      refine r_puti (k := 2) cls2 ct2 fi_2_2.1 fi_2_2.2 fp_2_2.1 fp_2_2.2 q_293 rfl rfl G w k_a0.1 k_a0.2 (dcs_get dec_X2_pop_0 35 rfl) (fun H locs w => ?_)
      have w := Wd.nm e_σ12 w
      refine lv_iconst (v := (1 : Int32)) G.hx G.hb (dcs_get dec_X2_pop_0 36 rfl) (by decide) ?_
      have e9 := Option.some.inj hf
      exact r_zret rfl G w hm (congrArg Prod.fst e9) (congrArg Prod.snd e9) (dcs_get dec_X2_pop_0 37 rfl)
end
set_option maxRecDepth 100000 in
set_option maxHeartbeats 4000000 in
theorem C_X2_pop {l : Launch} {D : va_G} {ay : Nat → ClassId} {ad : Nat → Nat} (hi : hInj NC ad) (a0 : Nat) (a1 : Nat) (σ : hSt) {r0 : Int32} {σ0 : hSt} (hf : F_X2_pop a0 a1 σ = some (r0, σ0)) (ok_a0 : okr kC NC 2 a0 = true) (ok_a1 : okr kC NC 10 a1 = true) : hM l D ay kC NC ad yX2_pop cX2_pop 3 ((some .boolean)) (rmK 2 81) [.ref (ad a0), .ref (ad a1)] σ (cI D ay kC NC ad r0 σ0) := by
  refine hM_in (by decide) hi (Nat.le_of_ble_eq_true rfl) ?_
  intro p e s m below meth c G hm w ls hl
  exact B_X2_pop_0 a0 a1 σ G hm ok_a0 ok_a1 hf w (lv_sub hl [0, 1] rfl)

/-! HillDrums.Plans.setDay(LHillDrums$Text;I)V -/
def DL_X3_setDay_0 : List (Nat × Instr × Nat) := [(0, .aload_n 1, 1), (1, .iload_n 2, 1), (2, .invokevirtual 25, 3), (5, .lstore_n 3, 1), (6, .aload_n 1, 1), (7, .getfield 31, 3), (10, .iconst 1, 1), (11, .if_icmp .eq 15, 3), (14, .aload_n 1, 1), (15, .getfield 31, 3), (18, .iconst 2, 1), (19, .if_icmp .eq 7, 3), (22, .iconst 1, 1), (23, .goto 4, 3), (26, .iconst 0, 1), (27, .istore 5, 2), (29, .iconst 1, 1), (30, .aload_n 1, 1), (31, .getfield 35, 3), (34, .ishl, 1), (35, .bipush 64, 2), (37, .invokestatic 38, 3), (40, .istore 6, 2), (42, .aload_n 0, 1), (43, .getfield 9, 3), (46, .iconst 0, 1), (47, .iconst 0, 1), (48, .iastore, 1), (49, .aload_n 0, 1), (50, .getfield 15, 3), (53, .iconst 0, 1), (54, .iconst 1, 1), (55, .bastore, 1), (56, .iconst 1, 1), (57, .istore 7, 2), (59, .iload 7, 2), (61, .iload 6, 2), (63, .if_icmp .ge 126, 3), (66, .aload_n 0, 1), (67, .getfield 9, 3)]
set_option maxRecDepth 100000 in
theorem dec_X3_setDay_0 : dcs cX3_setDay DL_X3_setDay_0 = true := by decide +kernel
def DL_X3_setDay_1 : List (Nat × Instr × Nat) := [(70, .iload 7, 2), (72, .iconst 0, 1), (73, .iastore, 1), (74, .aload_n 0, 1), (75, .getfield 15, 3), (78, .iload 7, 2), (80, .iload 5, 2), (82, .bastore, 1), (83, .iconst 0, 1), (84, .istore 8, 2), (86, .iload 8, 2), (88, .aload_n 1, 1), (89, .getfield 35, 3), (92, .if_icmp .ge 91, 3), (95, .iload 7, 2), (97, .iload 8, 2), (99, .ishr, 1), (100, .iconst 1, 1), (101, .iand, 1), (102, .ifCond .eq 75, 3), (105, .iload 7, 2), (107, .iconst 1, 1), (108, .iload 8, 2), (110, .ishl, 1), (111, .iconst (-1), 1), (112, .ixor, 1), (113, .iand, 1), (114, .istore 9, 2), (116, .aload_n 0, 1), (117, .getfield 9, 3), (120, .iload 7, 2), (122, .aload_n 0, 1), (123, .getfield 9, 3), (126, .iload 9, 2), (128, .iaload, 1), (129, .lload_n 3, 1), (130, .iload 8, 2), (132, .invokestatic 44, 3), (135, .ior, 1), (136, .iastore, 1)]
set_option maxRecDepth 100000 in
theorem dec_X3_setDay_1 : dcs cX3_setDay DL_X3_setDay_1 = true := by decide +kernel
def DL_X3_setDay_2 : List (Nat × Instr × Nat) := [(137, .aload_n 0, 1), (138, .getfield 15, 3), (141, .iload 7, 2), (143, .dup2, 1), (144, .baload, 1), (145, .aload_n 0, 1), (146, .getfield 15, 3), (149, .iload 9, 2), (151, .baload, 1), (152, .ifCond .eq 22, 3), (155, .aload_n 0, 1), (156, .getfield 9, 3), (159, .iload 9, 2), (161, .iaload, 1), (162, .iload 8, 2), (164, .ishr, 1), (165, .iconst 1, 1), (166, .iand, 1), (167, .ifCond .ne 7, 3), (170, .iconst 1, 1), (171, .goto 4, 3), (174, .iconst 0, 1), (175, .ior, 1), (176, .bastore, 1), (177, .iinc 8 1, 3), (180, .goto (-94), 3), (183, .iinc 7 1, 3), (186, .goto (-127), 3), (189, .return_, 1)]
set_option maxRecDepth 100000 in
theorem dec_X3_setDay_2 : dcs cX3_setDay DL_X3_setDay_2 = true := by decide +kernel
theorem lb_X3_setDay : lkB yX3_setDay cX3_setDay 10 (none) 2 := ⟨q_879, q_11, ⟨by decide, by decide⟩, by decide +kernel⟩
theorem lv_X3_setDay : lkV yX3_setDay := ⟨q_878, qs_54⟩
def F_X3_setDay_177 (a0 : Nat) (a1 : Nat) (l3 : Int64) (l5 : Int32) (l6 : Int32) (l7 : Int32) (l8 : Int32) (σ : hSt) : Option ((Int32 × hSt) ⊕ ((Int32 × hSt) ⊕ (hSt))) :=
cL (l8 + (1 : Int32)) fun v1 =>
some (.inl (v1, σ))
def F_X3_setDay_175 (a0 : Nat) (a1 : Nat) (l3 : Int64) (l5 : Int32) (l6 : Int32) (l7 : Int32) (l8 : Int32) (s0 : Nat) (s1 : Int32) (s2 : Int32) (s3 : Int32) (σ : hSt) : Option ((Int32 × hSt) ⊕ ((Int32 × hSt) ⊕ (hSt))) :=
cG (inb s1 (kC s0).2) <|
cL (uI σ s0 s1.toNatClampNeg (vp_nar .boolean (s2 ||| s3))) fun σ3 =>
F_X3_setDay_177 a0 a1 l3 l5 l6 l7 l8 σ3
def F_X3_setDay_174 (a0 : Nat) (a1 : Nat) (l3 : Int64) (l5 : Int32) (l6 : Int32) (l7 : Int32) (l8 : Int32) (s0 : Nat) (s1 : Int32) (s2 : Int32) (σ : hSt) : Option ((Int32 × hSt) ⊕ ((Int32 × hSt) ⊕ (hSt))) :=
F_X3_setDay_175 a0 a1 l3 l5 l6 l7 l8 s0 s1 s2 (0 : Int32) σ
def F_X3_setDay_86b (a0 : Nat) (a1 : Nat) (l3 : Int64) (l5 : Int32) (l6 : Int32) (l7 : Int32) (l8 : Int32) (σ : hSt) : Option ((Int32 × hSt) ⊕ ((Int32 × hSt) ⊕ (hSt))) :=
if (σ.1 a1 0) ≤ l8 then (
cL (l7 + (1 : Int32)) fun v4 =>
some (.inr (.inl (v4, σ)))) else (
if ((l7 >>> (l8 &&& 31)) &&& (1 : Int32)) = 0 then (
F_X3_setDay_177 a0 a1 l3 l5 l6 l7 l8 σ) else (
cL (l7 &&& (((1 : Int32) <<< (l8 &&& 31)) ^^^ (-1 : Int32))) fun v5 =>
cR (σ.2.2 a0 0) (okr kC NC 101) fun z6 =>
cR (σ.2.2 a0 0) (okr kC NC 101) fun z7 =>
cG (inb v5 (kC z7).2) <|
(F_X11_hearersOf l3 l8 σ).bind fun v10 =>
cG (inb l7 (kC z6).2) <|
cL (uI σ z6 l7.toNatClampNeg ((σ.1 z7 v5.toNatClampNeg) ||| v10)) fun σ12 =>
cR (σ12.2.2 a0 1) (okr kC NC 102) fun z13 =>
cG (inb l7 (kC z13).2) <|
cR (σ12.2.2 a0 1) (okr kC NC 102) fun z15 =>
cG (inb v5 (kC z15).2) <|
if (σ12.1 z15 v5.toNatClampNeg) = 0 then (
F_X3_setDay_174 a0 a1 l3 l5 l6 l7 l8 z13 l7 (σ12.1 z13 l7.toNatClampNeg) σ12) else (
cR (σ12.2.2 a0 0) (okr kC NC 101) fun z17 =>
cG (inb v5 (kC z17).2) <|
if (((σ12.1 z17 v5.toNatClampNeg) >>> (l8 &&& 31)) &&& (1 : Int32)) = 0 then (
F_X3_setDay_175 a0 a1 l3 l5 l6 l7 l8 z13 l7 (σ12.1 z13 l7.toNatClampNeg) (1 : Int32) σ12) else (
F_X3_setDay_174 a0 a1 l3 l5 l6 l7 l8 z13 l7 (σ12.1 z13 l7.toNatClampNeg) σ12))))
def S_X3_setDay_86 (a0 : Nat) (a1 : Nat) (l3 : Int64) (l5 : Int32) (l6 : Int32) (l7 : Int32) (v : Int32 × hSt) : Option ((Int32 × hSt) ⊕ ((Int32 × hSt) ⊕ (hSt))) := F_X3_setDay_86b a0 a1 l3 l5 l6 l7 v.1 v.2
def F_X3_setDay_86 (a0 : Nat) (a1 : Nat) (l3 : Int64) (l5 : Int32) (l6 : Int32) (l7 : Int32) (l8 : Int32) (σ : hSt) : Option ((Int32 × hSt) ⊕ (hSt)) := lp (S_X3_setDay_86 a0 a1 l3 l5 l6 l7) fuel (l8, σ)
def F_X3_setDay_59b (a0 : Nat) (a1 : Nat) (l3 : Int64) (l5 : Int32) (l6 : Int32) (l7 : Int32) (σ : hSt) : Option ((Int32 × hSt) ⊕ (hSt)) :=
if l6 ≤ l7 then (
some (.inr (σ))) else (
cR (σ.2.2 a0 0) (okr kC NC 101) fun z19 =>
cG (inb l7 (kC z19).2) <|
cL (uI σ z19 l7.toNatClampNeg (0 : Int32)) fun σ21 =>
cR (σ21.2.2 a0 1) (okr kC NC 102) fun z22 =>
cG (inb l7 (kC z22).2) <|
cL (uI σ21 z22 l7.toNatClampNeg (vp_nar .boolean l5)) fun σ24 =>
F_X3_setDay_86 a0 a1 l3 l5 l6 l7 (0 : Int32) σ24)
def S_X3_setDay_59 (a0 : Nat) (a1 : Nat) (l3 : Int64) (l5 : Int32) (l6 : Int32) (v : Int32 × hSt) : Option ((Int32 × hSt) ⊕ (hSt)) := F_X3_setDay_59b a0 a1 l3 l5 l6 v.1 v.2
def F_X3_setDay_59 (a0 : Nat) (a1 : Nat) (l3 : Int64) (l5 : Int32) (l6 : Int32) (l7 : Int32) (σ : hSt) : Option (hSt) := lp (S_X3_setDay_59 a0 a1 l3 l5 l6) fuel (l7, σ)
def F_X3_setDay_27 (a0 : Nat) (a1 : Nat) (l3 : Int64) (s0 : Int32) (σ : hSt) : Option (hSt) :=
cL (if (64 : Int32) < ((1 : Int32) <<< ((σ.1 a1 0) &&& 31)) then (64 : Int32) else ((1 : Int32) <<< ((σ.1 a1 0) &&& 31))) fun v25 =>
cR (σ.2.2 a0 0) (okr kC NC 101) fun z26 =>
cG (inb (0 : Int32) (kC z26).2) <|
cL (uI σ z26 (0 : Int32).toNatClampNeg (0 : Int32)) fun σ28 =>
cR (σ28.2.2 a0 1) (okr kC NC 102) fun z29 =>
cG (inb (0 : Int32) (kC z29).2) <|
cL (uI σ28 z29 (0 : Int32).toNatClampNeg (vp_nar .boolean (1 : Int32))) fun σ31 =>
F_X3_setDay_59 a0 a1 l3 s0 v25 (1 : Int32) σ31
def F_X3_setDay_26 (a0 : Nat) (a1 : Nat) (l3 : Int64) (σ : hSt) : Option (hSt) :=
F_X3_setDay_27 a0 a1 l3 (0 : Int32) σ
def F_X3_setDay (a0 : Nat) (a1 : Nat) (l2 : Int32) (σ : hSt) : Option (hSt) :=
cC (F_X7_heardOn a1 l2 σ) fun v33 σ34 =>
if (σ34.1 a1 8) = (1 : Int32) then (
F_X3_setDay_26 a0 a1 v33 σ34) else (
if (σ34.1 a1 8) = (2 : Int32) then (
F_X3_setDay_26 a0 a1 v33 σ34) else (
F_X3_setDay_27 a0 a1 v33 (1 : Int32) σ34))
section
variable {p : Program} {l : Launch} {e : Env} {s : State} {m : MethodId} {args : Array Value} {below : List Frame} {meth : Method} {c : Code} {D : va_G} {ay : Nat → ClassId} {ad : Nat → Nat}
set_option maxRecDepth 100000 in
set_option maxHeartbeats 4000000 in
theorem B_X3_setDay_177 {H : Heap} {locs : List Loc} {ls : Array Slot} {σ0 : hSt} {o : (Int32 × hSt) ⊕ ((Int32 × hSt) ⊕ (hSt))} (a0 : Nat) (a1 : Nat) (l3 : Int64) (l5 : Int32) (l6 : Int32) (l7 : Int32) (l8 : Int32) (σ : hSt) (G : Gx p m c cX3_setDay 10 s args RX3 D ay NC ad (aN NC ad)) (hm : meth.sig.returnType = none ∧ meth.locks = false) (ok_a0 : okr kC NC 3 a0 = true) (ok_a1 : okr kC NC 7 a1 = true) (hf : F_X3_setDay_177 a0 a1 l3 l5 l6 l7 l8 σ = some o) (hb0 : ∀ (v : Int32 × hSt), o = .inr (.inl v) → ∀ (H : Heap) (locs : List Loc) (ls : Array Slot), Wd D ay kC NC ad (aN NC ad) s v.2 H locs → lv_has ls 10 [(0, .ref (ad a0)), (1, .ref (ad a1)), (3, .long l3), (5, .int l5), (6, .int l6), (7, .int v.1)] → W p l e (rmK 4 95) s m args below meth c H locs 0 0 (MQ below (cV D ay kC NC ad σ0) args s 0 0 (aN NC ad)) (F0 m 59 ls [])) (hb1 : ∀ (v : Int32 × hSt), o = .inl v → ∀ (H : Heap) (locs : List Loc) (ls : Array Slot), Wd D ay kC NC ad (aN NC ad) s v.2 H locs → lv_has ls 10 [(0, .ref (ad a0)), (1, .ref (ad a1)), (3, .long l3), (5, .int l5), (6, .int l6), (7, .int l7), (8, .int v.1)] → W p l e (rmK 4 95) s m args below meth c H locs 0 0 (MQ below (cV D ay kC NC ad σ0) args s 0 0 (aN NC ad)) (F0 m 86 ls [])) (hr : ∀ x, o = .inr (.inr (x)) → x = σ0) (w : Wd D ay kC NC ad (aN NC ad) s σ H locs) (hl : lv_has ls 10 [(0, .ref (ad a0)), (1, .ref (ad a1)), (3, .long l3), (5, .int l5), (6, .int l6), (7, .int l7), (8, .int l8)]) : W p l e (rmK 4 95) s m args below meth c H locs 0 0 (MQ below (cV D ay kC NC ad σ0) args s 0 0 (aN NC ad)) (F0 m 177 ls []) := by
  have k_a0 := okr_in ok_a0
  have k_a1 := okr_in ok_a1
  unfold F_X3_setDay_177 at hf
  obtain ⟨v1, e_v1, hf⟩ := cL_some hf
  refine lv_iinc (v := v1) (lv' := [(8, .int v1), (0, .ref (ad a0)), (1, .ref (ad a1)), (3, .long l3), (5, .int l5), (6, .int l6), (7, .int l7)]) G.hx G.hb (dcs_get dec_X3_setDay_2 24 rfl) hl (k := 6) rfl (by rw [e_v1]; rfl) (by decide) rfl (fun ls hl => ?_)
  refine lv_goto (tgt := 86) G.hx G.hb (dcs_get dec_X3_setDay_2 25 rfl) (by decide) ?_
  exact hb1 _ (Option.some.inj hf).symm _ _ _ w (lv_sub hl [1, 2, 3, 4, 5, 6, 0] rfl)
set_option maxRecDepth 100000 in
set_option maxHeartbeats 4000000 in
theorem B_X3_setDay_175 {H : Heap} {locs : List Loc} {ls : Array Slot} {σ0 : hSt} {o : (Int32 × hSt) ⊕ ((Int32 × hSt) ⊕ (hSt))} (a0 : Nat) (a1 : Nat) (l3 : Int64) (l5 : Int32) (l6 : Int32) (l7 : Int32) (l8 : Int32) (s0 : Nat) (s1 : Int32) (s2 : Int32) (s3 : Int32) (σ : hSt) (G : Gx p m c cX3_setDay 10 s args RX3 D ay NC ad (aN NC ad)) (hm : meth.sig.returnType = none ∧ meth.locks = false) (ok_a0 : okr kC NC 3 a0 = true) (ok_a1 : okr kC NC 7 a1 = true) (ok_s0 : okr kC NC 102 s0 = true) (hf : F_X3_setDay_175 a0 a1 l3 l5 l6 l7 l8 s0 s1 s2 s3 σ = some o) (hb0 : ∀ (v : Int32 × hSt), o = .inr (.inl v) → ∀ (H : Heap) (locs : List Loc) (ls : Array Slot), Wd D ay kC NC ad (aN NC ad) s v.2 H locs → lv_has ls 10 [(0, .ref (ad a0)), (1, .ref (ad a1)), (3, .long l3), (5, .int l5), (6, .int l6), (7, .int v.1)] → W p l e (rmK 4 95) s m args below meth c H locs 0 0 (MQ below (cV D ay kC NC ad σ0) args s 0 0 (aN NC ad)) (F0 m 59 ls [])) (hb1 : ∀ (v : Int32 × hSt), o = .inl v → ∀ (H : Heap) (locs : List Loc) (ls : Array Slot), Wd D ay kC NC ad (aN NC ad) s v.2 H locs → lv_has ls 10 [(0, .ref (ad a0)), (1, .ref (ad a1)), (3, .long l3), (5, .int l5), (6, .int l6), (7, .int l7), (8, .int v.1)] → W p l e (rmK 4 95) s m args below meth c H locs 0 0 (MQ below (cV D ay kC NC ad σ0) args s 0 0 (aN NC ad)) (F0 m 86 ls [])) (hr : ∀ x, o = .inr (.inr (x)) → x = σ0) (w : Wd D ay kC NC ad (aN NC ad) s σ H locs) (hl : lv_has ls 10 [(0, .ref (ad a0)), (1, .ref (ad a1)), (3, .long l3), (5, .int l5), (6, .int l6), (7, .int l7), (8, .int l8)]) : W p l e (rmK 4 95) s m args below meth c H locs 0 0 (MQ below (cV D ay kC NC ad σ0) args s 0 0 (aN NC ad)) (F0 m 175 ls [.int s3, .int s2, .int s1, .ref (ad s0)]) := by
  have k_a0 := okr_in ok_a0
  have k_a1 := okr_in ok_a1
  have k_s0 := okr_in ok_s0
  unfold F_X3_setDay_175 at hf
  refine lv_ior G.hx G.hb (dcs_get dec_X3_setDay_2 22 rfl) ?_
  obtain ⟨h2, hf⟩ := cG_some hf
  obtain ⟨σ3, e_σ3, hf⟩ := cL_some hf
  refine r_zast G w k_s0.1 k_s0.2 h2 (dcs_get dec_X3_setDay_2 23 rfl) (fun H locs w => ?_)
  have w := Wd.nm e_σ3 w
  exact B_X3_setDay_177 a0 a1 l3 l5 l6 l7 l8 σ3 G hm ok_a0 ok_a1 hf hb0 hb1 hr w (lv_sub hl [0, 1, 2, 3, 4, 5, 6] rfl)
set_option maxRecDepth 100000 in
set_option maxHeartbeats 4000000 in
theorem B_X3_setDay_174 {H : Heap} {locs : List Loc} {ls : Array Slot} {σ0 : hSt} {o : (Int32 × hSt) ⊕ ((Int32 × hSt) ⊕ (hSt))} (a0 : Nat) (a1 : Nat) (l3 : Int64) (l5 : Int32) (l6 : Int32) (l7 : Int32) (l8 : Int32) (s0 : Nat) (s1 : Int32) (s2 : Int32) (σ : hSt) (G : Gx p m c cX3_setDay 10 s args RX3 D ay NC ad (aN NC ad)) (hm : meth.sig.returnType = none ∧ meth.locks = false) (ok_a0 : okr kC NC 3 a0 = true) (ok_a1 : okr kC NC 7 a1 = true) (ok_s0 : okr kC NC 102 s0 = true) (hf : F_X3_setDay_174 a0 a1 l3 l5 l6 l7 l8 s0 s1 s2 σ = some o) (hb0 : ∀ (v : Int32 × hSt), o = .inr (.inl v) → ∀ (H : Heap) (locs : List Loc) (ls : Array Slot), Wd D ay kC NC ad (aN NC ad) s v.2 H locs → lv_has ls 10 [(0, .ref (ad a0)), (1, .ref (ad a1)), (3, .long l3), (5, .int l5), (6, .int l6), (7, .int v.1)] → W p l e (rmK 4 95) s m args below meth c H locs 0 0 (MQ below (cV D ay kC NC ad σ0) args s 0 0 (aN NC ad)) (F0 m 59 ls [])) (hb1 : ∀ (v : Int32 × hSt), o = .inl v → ∀ (H : Heap) (locs : List Loc) (ls : Array Slot), Wd D ay kC NC ad (aN NC ad) s v.2 H locs → lv_has ls 10 [(0, .ref (ad a0)), (1, .ref (ad a1)), (3, .long l3), (5, .int l5), (6, .int l6), (7, .int l7), (8, .int v.1)] → W p l e (rmK 4 95) s m args below meth c H locs 0 0 (MQ below (cV D ay kC NC ad σ0) args s 0 0 (aN NC ad)) (F0 m 86 ls [])) (hr : ∀ x, o = .inr (.inr (x)) → x = σ0) (w : Wd D ay kC NC ad (aN NC ad) s σ H locs) (hl : lv_has ls 10 [(0, .ref (ad a0)), (1, .ref (ad a1)), (3, .long l3), (5, .int l5), (6, .int l6), (7, .int l7), (8, .int l8)]) : W p l e (rmK 4 95) s m args below meth c H locs 0 0 (MQ below (cV D ay kC NC ad σ0) args s 0 0 (aN NC ad)) (F0 m 174 ls [.int s2, .int s1, .ref (ad s0)]) := by
  have k_a0 := okr_in ok_a0
  have k_a1 := okr_in ok_a1
  have k_s0 := okr_in ok_s0
  unfold F_X3_setDay_174 at hf
  refine lv_iconst (v := (0 : Int32)) G.hx G.hb (dcs_get dec_X3_setDay_2 21 rfl) (by decide) ?_
  exact B_X3_setDay_175 a0 a1 l3 l5 l6 l7 l8 s0 s1 s2 (0 : Int32) σ G hm ok_a0 ok_a1 ok_s0 hf hb0 hb1 hr w (lv_sub hl [0, 1, 2, 3, 4, 5, 6] rfl)
set_option maxRecDepth 100000 in
set_option maxHeartbeats 4000000 in
theorem B_X3_setDay_86b {H : Heap} {locs : List Loc} {ls : Array Slot} {σ0 : hSt} {o : (Int32 × hSt) ⊕ ((Int32 × hSt) ⊕ (hSt))} (a0 : Nat) (a1 : Nat) (l3 : Int64) (l5 : Int32) (l6 : Int32) (l7 : Int32) (l8 : Int32) (σ : hSt) (G : Gx p m c cX3_setDay 10 s args RX3 D ay NC ad (aN NC ad)) (hm : meth.sig.returnType = none ∧ meth.locks = false) (ok_a0 : okr kC NC 3 a0 = true) (ok_a1 : okr kC NC 7 a1 = true) (hf : F_X3_setDay_86b a0 a1 l3 l5 l6 l7 l8 σ = some o) (hb0 : ∀ (v : Int32 × hSt), o = .inr (.inl v) → ∀ (H : Heap) (locs : List Loc) (ls : Array Slot), Wd D ay kC NC ad (aN NC ad) s v.2 H locs → lv_has ls 10 [(0, .ref (ad a0)), (1, .ref (ad a1)), (3, .long l3), (5, .int l5), (6, .int l6), (7, .int v.1)] → W p l e (rmK 4 95) s m args below meth c H locs 0 0 (MQ below (cV D ay kC NC ad σ0) args s 0 0 (aN NC ad)) (F0 m 59 ls [])) (hb1 : ∀ (v : Int32 × hSt), o = .inl v → ∀ (H : Heap) (locs : List Loc) (ls : Array Slot), Wd D ay kC NC ad (aN NC ad) s v.2 H locs → lv_has ls 10 [(0, .ref (ad a0)), (1, .ref (ad a1)), (3, .long l3), (5, .int l5), (6, .int l6), (7, .int l7), (8, .int v.1)] → W p l e (rmK 4 95) s m args below meth c H locs 0 0 (MQ below (cV D ay kC NC ad σ0) args s 0 0 (aN NC ad)) (F0 m 86 ls [])) (hr : ∀ x, o = .inr (.inr (x)) → x = σ0) (w : Wd D ay kC NC ad (aN NC ad) s σ H locs) (hl : lv_has ls 10 [(0, .ref (ad a0)), (1, .ref (ad a1)), (3, .long l3), (5, .int l5), (6, .int l6), (7, .int l7), (8, .int l8)]) : W p l e (rmK 4 95) s m args below meth c H locs 0 0 (MQ below (cV D ay kC NC ad σ0) args s 0 0 (aN NC ad)) (F0 m 86 ls []) := by
  have k_a0 := okr_in ok_a0
  have k_a1 := okr_in ok_a1
  unfold F_X3_setDay_86b at hf
  refine lv_iload G.hx G.hb (dcs_get dec_X3_setDay_1 10 rfl) (lv_at hl 6 rfl) ?_
  refine lv_aload_n G.hx G.hb (dcs_get dec_X3_setDay_1 11 rfl) rfl (lv_at hl 1 rfl) ?_
  refine r_getiN (k := 0) cls7 fi_7_0.1 fi_7_0.2 nf_92 G w k_a1.1 k_a1.2 (dcs_get dec_X3_setDay_1 12 rfl) ?_
  refine lv_icmp_ge (tgt := 183) G.hx G.hb (dcs_get dec_X3_setDay_1 13 rfl) (by decide) (fun hc => ?_) (fun hc => ?_)
  · rw [if_pos hc] at hf
    obtain ⟨v4, e_v4, hf⟩ := cL_some hf
    refine lv_iinc (v := v4) (lv' := [(7, .int v4), (0, .ref (ad a0)), (1, .ref (ad a1)), (3, .long l3), (5, .int l5), (6, .int l6), (8, .int l8)]) G.hx G.hb (dcs_get dec_X3_setDay_2 26 rfl) hl (k := 5) rfl (by rw [e_v4]; rfl) (by decide) rfl (fun ls hl => ?_)
    refine lv_goto (tgt := 59) G.hx G.hb (dcs_get dec_X3_setDay_2 27 rfl) (by decide) ?_
    exact hb0 _ (Option.some.inj hf).symm _ _ _ w (lv_sub hl [1, 2, 3, 4, 5, 0] rfl)
  · rw [if_neg hc] at hf
    refine lv_iload G.hx G.hb (dcs_get dec_X3_setDay_1 14 rfl) (lv_at hl 5 rfl) ?_
    refine lv_iload G.hx G.hb (dcs_get dec_X3_setDay_1 15 rfl) (lv_at hl 6 rfl) ?_
    refine lv_ishr G.hx G.hb (dcs_get dec_X3_setDay_1 16 rfl) ?_
    refine lv_iconst (v := (1 : Int32)) G.hx G.hb (dcs_get dec_X3_setDay_1 17 rfl) (by decide) ?_
    refine lv_iand G.hx G.hb (dcs_get dec_X3_setDay_1 18 rfl) ?_
    refine lv_if_eq (tgt := 177) G.hx G.hb (dcs_get dec_X3_setDay_1 19 rfl) (by decide) (fun hc => ?_) (fun hc => ?_)
    · rw [if_pos hc] at hf
      exact B_X3_setDay_177 a0 a1 l3 l5 l6 l7 l8 σ G hm ok_a0 ok_a1 hf hb0 hb1 hr w (lv_sub hl [0, 1, 2, 3, 4, 5, 6] rfl)
    · rw [if_neg hc] at hf
      refine lv_iload G.hx G.hb (dcs_get dec_X3_setDay_1 20 rfl) (lv_at hl 5 rfl) ?_
      refine lv_iconst (v := (1 : Int32)) G.hx G.hb (dcs_get dec_X3_setDay_1 21 rfl) (by decide) ?_
      refine lv_iload G.hx G.hb (dcs_get dec_X3_setDay_1 22 rfl) (lv_at hl 6 rfl) ?_
      refine lv_ishl G.hx G.hb (dcs_get dec_X3_setDay_1 23 rfl) ?_
      refine lv_iconst (v := (-1 : Int32)) G.hx G.hb (dcs_get dec_X3_setDay_1 24 rfl) (by decide) ?_
      refine lv_ixor G.hx G.hb (dcs_get dec_X3_setDay_1 25 rfl) ?_
      refine lv_iand G.hx G.hb (dcs_get dec_X3_setDay_1 26 rfl) ?_
      obtain ⟨v5, e_v5, hf⟩ := cL_some hf
      refine r_topi e_v5 ?_
      refine lv_istore (lv' := [(9, .int v5), (0, .ref (ad a0)), (1, .ref (ad a1)), (3, .long l3), (5, .int l5), (6, .int l6), (7, .int l7), (8, .int l8)]) G.hx G.hb (dcs_get dec_X3_setDay_1 27 rfl) hl (by decide) rfl (fun ls hl => ?_)
      refine lv_aload_n G.hx G.hb (dcs_get dec_X3_setDay_1 28 rfl) rfl (lv_at hl 1 rfl) ?_
      obtain ⟨z6, e_z6, ok_z6, hf⟩ := cR_some hf
      have k_z6 := okr_in ok_z6
      refine r_getr (k := 0) cls3 fi_3_0.1 fi_3_0.2 q_328 G w k_a0.1 k_a0.2 e_z6 (dcs_get dec_X3_setDay_1 29 rfl) ?_
      refine lv_iload G.hx G.hb (dcs_get dec_X3_setDay_1 30 rfl) (lv_at hl 6 rfl) ?_
      refine lv_aload_n G.hx G.hb (dcs_get dec_X3_setDay_1 31 rfl) rfl (lv_at hl 1 rfl) ?_
      obtain ⟨z7, e_z7, ok_z7, hf⟩ := cR_some hf
      have k_z7 := okr_in ok_z7
      refine r_getr (k := 0) cls3 fi_3_0.1 fi_3_0.2 q_328 G w k_a0.1 k_a0.2 e_z7 (dcs_get dec_X3_setDay_1 32 rfl) ?_
      refine lv_iload G.hx G.hb (dcs_get dec_X3_setDay_1 33 rfl) (lv_at hl 0 rfl) ?_
      obtain ⟨h8, hf⟩ := cG_some hf
      refine r_iald G w k_z7.1 k_z7.2 h8 (dcs_get dec_X3_setDay_1 34 rfl) ?_
      refine lv_lload_n G.hx G.hb (dcs_get dec_X3_setDay_1 35 rfl) rfl (lv_at hl 3 rfl) ?_
      refine lv_iload G.hx G.hb (dcs_get dec_X3_setDay_1 36 rfl) (lv_at hl 7 rfl) ?_
      obtain ⟨v10, h9, hf⟩ := cB_some hf
      refine a_i (k_SN (As := [.long l3, .int l8]) (rest := [.int (σ.1 z7 v5.toNatClampNeg), .int l7, .ref (ad z6)]) lb_X11_hearersOf q_757 nm_881 (C_X11_hearersOf G.2.2.1 l3 l8 σ h9 ) ⟨(Nat.le_of_ble_eq_true rfl), (Nat.le_of_ble_eq_true rfl)⟩ G w rfl rfl hl.1 (Nat.le_of_ble_eq_true rfl) (dcs_get dec_X3_setDay_1 37 rfl) ⟨Nat.le_refl _, Nat.le_refl _⟩) G w (fun H locs w => ?_)
      refine lv_ior G.hx G.hb (dcs_get dec_X3_setDay_1 38 rfl) ?_
      obtain ⟨h11, hf⟩ := cG_some hf
      obtain ⟨σ12, e_σ12, hf⟩ := cL_some hf
      refine r_iast G w k_z6.1 k_z6.2 h11 (dcs_get dec_X3_setDay_1 39 rfl) (fun H locs w => ?_)
      have w := Wd.nm e_σ12 w
      refine lv_aload_n G.hx G.hb (dcs_get dec_X3_setDay_2 0 rfl) rfl (lv_at hl 1 rfl) ?_
      obtain ⟨z13, e_z13, ok_z13, hf⟩ := cR_some hf
      have k_z13 := okr_in ok_z13
      refine r_getr (k := 1) cls3 fi_3_1.1 fi_3_1.2 q_329 G w k_a0.1 k_a0.2 e_z13 (dcs_get dec_X3_setDay_2 1 rfl) ?_
      refine lv_iload G.hx G.hb (dcs_get dec_X3_setDay_2 2 rfl) (lv_at hl 6 rfl) ?_
      refine lv_dup2_11 G.hx G.hb (dcs_get dec_X3_setDay_2 3 rfl) rfl rfl ?_
      obtain ⟨h14, hf⟩ := cG_some hf
      refine r_zald G w k_z13.1 k_z13.2 h14 (dcs_get dec_X3_setDay_2 4 rfl) ?_
      refine lv_aload_n G.hx G.hb (dcs_get dec_X3_setDay_2 5 rfl) rfl (lv_at hl 1 rfl) ?_
      obtain ⟨z15, e_z15, ok_z15, hf⟩ := cR_some hf
      have k_z15 := okr_in ok_z15
      refine r_getr (k := 1) cls3 fi_3_1.1 fi_3_1.2 q_329 G w k_a0.1 k_a0.2 e_z15 (dcs_get dec_X3_setDay_2 6 rfl) ?_
      refine lv_iload G.hx G.hb (dcs_get dec_X3_setDay_2 7 rfl) (lv_at hl 0 rfl) ?_
      obtain ⟨h16, hf⟩ := cG_some hf
      refine r_zald G w k_z15.1 k_z15.2 h16 (dcs_get dec_X3_setDay_2 8 rfl) ?_
      refine lv_if_eq (tgt := 174) G.hx G.hb (dcs_get dec_X3_setDay_2 9 rfl) (by decide) (fun hc => ?_) (fun hc => ?_)
      · rw [if_pos hc] at hf
        exact B_X3_setDay_174 a0 a1 l3 l5 l6 l7 l8 z13 l7 (σ12.1 z13 l7.toNatClampNeg) σ12 G hm ok_a0 ok_a1 ok_z13 hf hb0 hb1 hr w (lv_sub hl [1, 2, 3, 4, 5, 6, 7] rfl)
      · rw [if_neg hc] at hf
        refine lv_aload_n G.hx G.hb (dcs_get dec_X3_setDay_2 10 rfl) rfl (lv_at hl 1 rfl) ?_
        obtain ⟨z17, e_z17, ok_z17, hf⟩ := cR_some hf
        have k_z17 := okr_in ok_z17
        refine r_getr (k := 0) cls3 fi_3_0.1 fi_3_0.2 q_328 G w k_a0.1 k_a0.2 e_z17 (dcs_get dec_X3_setDay_2 11 rfl) ?_
        refine lv_iload G.hx G.hb (dcs_get dec_X3_setDay_2 12 rfl) (lv_at hl 0 rfl) ?_
        obtain ⟨h18, hf⟩ := cG_some hf
        refine r_iald G w k_z17.1 k_z17.2 h18 (dcs_get dec_X3_setDay_2 13 rfl) ?_
        refine lv_iload G.hx G.hb (dcs_get dec_X3_setDay_2 14 rfl) (lv_at hl 7 rfl) ?_
        refine lv_ishr G.hx G.hb (dcs_get dec_X3_setDay_2 15 rfl) ?_
        refine lv_iconst (v := (1 : Int32)) G.hx G.hb (dcs_get dec_X3_setDay_2 16 rfl) (by decide) ?_
        refine lv_iand G.hx G.hb (dcs_get dec_X3_setDay_2 17 rfl) ?_
        refine lv_if_ne (tgt := 174) G.hx G.hb (dcs_get dec_X3_setDay_2 18 rfl) (by decide) (fun hc => ?_) (fun hc => ?_)
        · rw [if_neg hc] at hf
          exact B_X3_setDay_174 a0 a1 l3 l5 l6 l7 l8 z13 l7 (σ12.1 z13 l7.toNatClampNeg) σ12 G hm ok_a0 ok_a1 ok_z13 hf hb0 hb1 hr w (lv_sub hl [1, 2, 3, 4, 5, 6, 7] rfl)
        · rw [if_pos hc] at hf
          refine lv_iconst (v := (1 : Int32)) G.hx G.hb (dcs_get dec_X3_setDay_2 19 rfl) (by decide) ?_
          refine lv_goto (tgt := 175) G.hx G.hb (dcs_get dec_X3_setDay_2 20 rfl) (by decide) ?_
          exact B_X3_setDay_175 a0 a1 l3 l5 l6 l7 l8 z13 l7 (σ12.1 z13 l7.toNatClampNeg) (1 : Int32) σ12 G hm ok_a0 ok_a1 ok_z13 hf hb0 hb1 hr w (lv_sub hl [1, 2, 3, 4, 5, 6, 7] rfl)
set_option maxRecDepth 100000 in
set_option maxHeartbeats 4000000 in
theorem H_X3_setDay_86 {σ0 : hSt} {o : (Int32 × hSt) ⊕ (hSt)} (a0 : Nat) (a1 : Nat) (l3 : Int64) (l5 : Int32) (l6 : Int32) (l7 : Int32) (G : Gx p m c cX3_setDay 10 s args RX3 D ay NC ad (aN NC ad)) (hm : meth.sig.returnType = none ∧ meth.locks = false) (ok_a0 : okr kC NC 3 a0 = true) (ok_a1 : okr kC NC 7 a1 = true) (hb0 : ∀ (v : Int32 × hSt), o = .inl v → ∀ (H : Heap) (locs : List Loc) (ls : Array Slot), Wd D ay kC NC ad (aN NC ad) s v.2 H locs → lv_has ls 10 [(0, .ref (ad a0)), (1, .ref (ad a1)), (3, .long l3), (5, .int l5), (6, .int l6), (7, .int v.1)] → W p l e (rmK 4 95) s m args below meth c H locs 0 0 (MQ below (cV D ay kC NC ad σ0) args s 0 0 (aN NC ad)) (F0 m 59 ls [])) (hr : ∀ x, o = .inr (x) → x = σ0) : ∀ (k : Nat) (v : Int32 × hSt), lp (S_X3_setDay_86 a0 a1 l3 l5 l6 l7) k v = some o → ∀ (H : Heap) (locs : List Loc) (ls : Array Slot), Wd D ay kC NC ad (aN NC ad) s v.2 H locs → lv_has ls 10 [(0, .ref (ad a0)), (1, .ref (ad a1)), (3, .long l3), (5, .int l5), (6, .int l6), (7, .int l7), (8, .int v.1)] → W p l e (rmK 4 95) s m args below meth c H locs 0 0 (MQ below (cV D ay kC NC ad σ0) args s 0 0 (aN NC ad)) (F0 m 86 ls []) := by
  intro k
  induction k with
  | zero => intro v hf; cases hf
  | succ k ih =>
    intro v hf H locs ls w hl
    obtain ⟨o1, h1, h2, h3⟩ := lp_some hf
    exact B_X3_setDay_86b a0 a1 l3 l5 l6 l7 v.1 v.2 G hm ok_a0 ok_a1 h1 (fun v' e => hb0 v' (h3 _ e).symm) (fun v' e => ih v' (h2 v' e)) (fun x e => hr x (h3 _ e).symm) w hl
set_option maxRecDepth 100000 in
set_option maxHeartbeats 4000000 in
theorem B_X3_setDay_86 {H : Heap} {locs : List Loc} {ls : Array Slot} {σ0 : hSt} {o : (Int32 × hSt) ⊕ (hSt)} (a0 : Nat) (a1 : Nat) (l3 : Int64) (l5 : Int32) (l6 : Int32) (l7 : Int32) (l8 : Int32) (σ : hSt) (G : Gx p m c cX3_setDay 10 s args RX3 D ay NC ad (aN NC ad)) (hm : meth.sig.returnType = none ∧ meth.locks = false) (ok_a0 : okr kC NC 3 a0 = true) (ok_a1 : okr kC NC 7 a1 = true) (hf : F_X3_setDay_86 a0 a1 l3 l5 l6 l7 l8 σ = some o) (hb0 : ∀ (v : Int32 × hSt), o = .inl v → ∀ (H : Heap) (locs : List Loc) (ls : Array Slot), Wd D ay kC NC ad (aN NC ad) s v.2 H locs → lv_has ls 10 [(0, .ref (ad a0)), (1, .ref (ad a1)), (3, .long l3), (5, .int l5), (6, .int l6), (7, .int v.1)] → W p l e (rmK 4 95) s m args below meth c H locs 0 0 (MQ below (cV D ay kC NC ad σ0) args s 0 0 (aN NC ad)) (F0 m 59 ls [])) (hr : ∀ x, o = .inr (x) → x = σ0) (w : Wd D ay kC NC ad (aN NC ad) s σ H locs) (hl : lv_has ls 10 [(0, .ref (ad a0)), (1, .ref (ad a1)), (3, .long l3), (5, .int l5), (6, .int l6), (7, .int l7), (8, .int l8)]) : W p l e (rmK 4 95) s m args below meth c H locs 0 0 (MQ below (cV D ay kC NC ad σ0) args s 0 0 (aN NC ad)) (F0 m 86 ls []) := by
  unfold F_X3_setDay_86 at hf
  exact H_X3_setDay_86 a0 a1 l3 l5 l6 l7  G hm ok_a0 ok_a1 hb0 hr fuel (l8, σ) hf _ _ _ w hl
set_option maxRecDepth 100000 in
set_option maxHeartbeats 4000000 in
theorem B_X3_setDay_59b {H : Heap} {locs : List Loc} {ls : Array Slot} {σ0 : hSt} {o : (Int32 × hSt) ⊕ (hSt)} (a0 : Nat) (a1 : Nat) (l3 : Int64) (l5 : Int32) (l6 : Int32) (l7 : Int32) (σ : hSt) (G : Gx p m c cX3_setDay 10 s args RX3 D ay NC ad (aN NC ad)) (hm : meth.sig.returnType = none ∧ meth.locks = false) (ok_a0 : okr kC NC 3 a0 = true) (ok_a1 : okr kC NC 7 a1 = true) (hf : F_X3_setDay_59b a0 a1 l3 l5 l6 l7 σ = some o) (hb0 : ∀ (v : Int32 × hSt), o = .inl v → ∀ (H : Heap) (locs : List Loc) (ls : Array Slot), Wd D ay kC NC ad (aN NC ad) s v.2 H locs → lv_has ls 10 [(0, .ref (ad a0)), (1, .ref (ad a1)), (3, .long l3), (5, .int l5), (6, .int l6), (7, .int v.1)] → W p l e (rmK 4 95) s m args below meth c H locs 0 0 (MQ below (cV D ay kC NC ad σ0) args s 0 0 (aN NC ad)) (F0 m 59 ls [])) (hr : ∀ x, o = .inr (x) → x = σ0) (w : Wd D ay kC NC ad (aN NC ad) s σ H locs) (hl : lv_has ls 10 [(0, .ref (ad a0)), (1, .ref (ad a1)), (3, .long l3), (5, .int l5), (6, .int l6), (7, .int l7)]) : W p l e (rmK 4 95) s m args below meth c H locs 0 0 (MQ below (cV D ay kC NC ad σ0) args s 0 0 (aN NC ad)) (F0 m 59 ls []) := by
  have k_a0 := okr_in ok_a0
  have k_a1 := okr_in ok_a1
  unfold F_X3_setDay_59b at hf
  refine lv_iload G.hx G.hb (dcs_get dec_X3_setDay_0 35 rfl) (lv_at hl 5 rfl) ?_
  refine lv_iload G.hx G.hb (dcs_get dec_X3_setDay_0 36 rfl) (lv_at hl 4 rfl) ?_
  refine lv_icmp_ge (tgt := 189) G.hx G.hb (dcs_get dec_X3_setDay_0 37 rfl) (by decide) (fun hc => ?_) (fun hc => ?_)
  · rw [if_pos hc] at hf
    have e9 := hr _ (Option.some.inj hf).symm
    exact r_vret G w hm e9 (dcs_get dec_X3_setDay_2 28 rfl)
  · rw [if_neg hc] at hf
    refine lv_aload_n G.hx G.hb (dcs_get dec_X3_setDay_0 38 rfl) rfl (lv_at hl 0 rfl) ?_
    obtain ⟨z19, e_z19, ok_z19, hf⟩ := cR_some hf
    have k_z19 := okr_in ok_z19
    refine r_getr (k := 0) cls3 fi_3_0.1 fi_3_0.2 q_328 G w k_a0.1 k_a0.2 e_z19 (dcs_get dec_X3_setDay_0 39 rfl) ?_
    refine lv_iload G.hx G.hb (dcs_get dec_X3_setDay_1 0 rfl) (lv_at hl 5 rfl) ?_
    refine lv_iconst (v := (0 : Int32)) G.hx G.hb (dcs_get dec_X3_setDay_1 1 rfl) (by decide) ?_
    obtain ⟨h20, hf⟩ := cG_some hf
    obtain ⟨σ21, e_σ21, hf⟩ := cL_some hf
    refine r_iast G w k_z19.1 k_z19.2 h20 (dcs_get dec_X3_setDay_1 2 rfl) (fun H locs w => ?_)
    have w := Wd.nm e_σ21 w
    refine lv_aload_n G.hx G.hb (dcs_get dec_X3_setDay_1 3 rfl) rfl (lv_at hl 0 rfl) ?_
    obtain ⟨z22, e_z22, ok_z22, hf⟩ := cR_some hf
    have k_z22 := okr_in ok_z22
    refine r_getr (k := 1) cls3 fi_3_1.1 fi_3_1.2 q_329 G w k_a0.1 k_a0.2 e_z22 (dcs_get dec_X3_setDay_1 4 rfl) ?_
    refine lv_iload G.hx G.hb (dcs_get dec_X3_setDay_1 5 rfl) (lv_at hl 5 rfl) ?_
    refine lv_iload G.hx G.hb (dcs_get dec_X3_setDay_1 6 rfl) (lv_at hl 3 rfl) ?_
    obtain ⟨h23, hf⟩ := cG_some hf
    obtain ⟨σ24, e_σ24, hf⟩ := cL_some hf
    refine r_zast G w k_z22.1 k_z22.2 h23 (dcs_get dec_X3_setDay_1 7 rfl) (fun H locs w => ?_)
    have w := Wd.nm e_σ24 w
    refine lv_iconst (v := (0 : Int32)) G.hx G.hb (dcs_get dec_X3_setDay_1 8 rfl) (by decide) ?_
    refine lv_istore (lv' := [(8, .int (0 : Int32)), (0, .ref (ad a0)), (1, .ref (ad a1)), (3, .long l3), (5, .int l5), (6, .int l6), (7, .int l7)]) G.hx G.hb (dcs_get dec_X3_setDay_1 9 rfl) hl (by decide) rfl (fun ls hl => ?_)
    exact B_X3_setDay_86 a0 a1 l3 l5 l6 l7 (0 : Int32) σ24 G hm ok_a0 ok_a1 hf hb0 hr w (lv_sub hl [1, 2, 3, 4, 5, 6, 0] rfl)
set_option maxRecDepth 100000 in
set_option maxHeartbeats 4000000 in
theorem H_X3_setDay_59 {σ0 : hSt} (a0 : Nat) (a1 : Nat) (l3 : Int64) (l5 : Int32) (l6 : Int32) (G : Gx p m c cX3_setDay 10 s args RX3 D ay NC ad (aN NC ad)) (hm : meth.sig.returnType = none ∧ meth.locks = false) (ok_a0 : okr kC NC 3 a0 = true) (ok_a1 : okr kC NC 7 a1 = true)  : ∀ (k : Nat) (v : Int32 × hSt), lp (S_X3_setDay_59 a0 a1 l3 l5 l6) k v = some σ0 → ∀ (H : Heap) (locs : List Loc) (ls : Array Slot), Wd D ay kC NC ad (aN NC ad) s v.2 H locs → lv_has ls 10 [(0, .ref (ad a0)), (1, .ref (ad a1)), (3, .long l3), (5, .int l5), (6, .int l6), (7, .int v.1)] → W p l e (rmK 4 95) s m args below meth c H locs 0 0 (MQ below (cV D ay kC NC ad σ0) args s 0 0 (aN NC ad)) (F0 m 59 ls []) := by
  intro k
  induction k with
  | zero => intro v hf; cases hf
  | succ k ih =>
    intro v hf H locs ls w hl
    obtain ⟨o1, h1, h2, h3⟩ := lp_some hf
    exact B_X3_setDay_59b a0 a1 l3 l5 l6 v.1 v.2 G hm ok_a0 ok_a1 h1  (fun v' e => ih v' (h2 v' e)) (fun x e => h3 x e) w hl
set_option maxRecDepth 100000 in
set_option maxHeartbeats 4000000 in
theorem B_X3_setDay_59 {H : Heap} {locs : List Loc} {ls : Array Slot} {σ0 : hSt} (a0 : Nat) (a1 : Nat) (l3 : Int64) (l5 : Int32) (l6 : Int32) (l7 : Int32) (σ : hSt) (G : Gx p m c cX3_setDay 10 s args RX3 D ay NC ad (aN NC ad)) (hm : meth.sig.returnType = none ∧ meth.locks = false) (ok_a0 : okr kC NC 3 a0 = true) (ok_a1 : okr kC NC 7 a1 = true) (hf : F_X3_setDay_59 a0 a1 l3 l5 l6 l7 σ = some σ0)  (w : Wd D ay kC NC ad (aN NC ad) s σ H locs) (hl : lv_has ls 10 [(0, .ref (ad a0)), (1, .ref (ad a1)), (3, .long l3), (5, .int l5), (6, .int l6), (7, .int l7)]) : W p l e (rmK 4 95) s m args below meth c H locs 0 0 (MQ below (cV D ay kC NC ad σ0) args s 0 0 (aN NC ad)) (F0 m 59 ls []) := by
  unfold F_X3_setDay_59 at hf
  exact H_X3_setDay_59 a0 a1 l3 l5 l6  G hm ok_a0 ok_a1  fuel (l7, σ) hf _ _ _ w hl
set_option maxRecDepth 100000 in
set_option maxHeartbeats 4000000 in
theorem B_X3_setDay_27 {H : Heap} {locs : List Loc} {ls : Array Slot} {σ0 : hSt} (a0 : Nat) (a1 : Nat) (l3 : Int64) (s0 : Int32) (σ : hSt) (G : Gx p m c cX3_setDay 10 s args RX3 D ay NC ad (aN NC ad)) (hm : meth.sig.returnType = none ∧ meth.locks = false) (ok_a0 : okr kC NC 3 a0 = true) (ok_a1 : okr kC NC 7 a1 = true) (hf : F_X3_setDay_27 a0 a1 l3 s0 σ = some σ0)  (w : Wd D ay kC NC ad (aN NC ad) s σ H locs) (hl : lv_has ls 10 [(0, .ref (ad a0)), (1, .ref (ad a1)), (3, .long l3)]) : W p l e (rmK 4 95) s m args below meth c H locs 0 0 (MQ below (cV D ay kC NC ad σ0) args s 0 0 (aN NC ad)) (F0 m 27 ls [.int s0]) := by
  have k_a0 := okr_in ok_a0
  have k_a1 := okr_in ok_a1
  unfold F_X3_setDay_27 at hf
  refine lv_istore (lv' := [(5, .int s0), (0, .ref (ad a0)), (1, .ref (ad a1)), (3, .long l3)]) G.hx G.hb (dcs_get dec_X3_setDay_0 15 rfl) hl (by decide) rfl (fun ls hl => ?_)
  refine lv_iconst (v := (1 : Int32)) G.hx G.hb (dcs_get dec_X3_setDay_0 16 rfl) (by decide) ?_
  refine lv_aload_n G.hx G.hb (dcs_get dec_X3_setDay_0 17 rfl) rfl (lv_at hl 2 rfl) ?_
  refine r_getiN (k := 0) cls7 fi_7_0.1 fi_7_0.2 nf_92 G w k_a1.1 k_a1.2 (dcs_get dec_X3_setDay_0 18 rfl) ?_
  refine lv_ishl G.hx G.hb (dcs_get dec_X3_setDay_0 19 rfl) ?_
  refine lv_bipush (v := (64 : Int32)) G.hx G.hb (dcs_get dec_X3_setDay_0 20 rfl) (by decide) ?_
  refine r_min q_871 q_557 q_19 q_558 ⟨(Nat.le_of_ble_eq_true rfl), (Nat.le_of_ble_eq_true rfl)⟩ ⟨Nat.le_refl _, Nat.le_refl _⟩ G hl.1 (dcs_get dec_X3_setDay_0 21 rfl) ?_
  obtain ⟨v25, e_v25, hf⟩ := cL_some hf
  refine r_topi e_v25 ?_
  refine lv_istore (lv' := [(6, .int v25), (5, .int s0), (0, .ref (ad a0)), (1, .ref (ad a1)), (3, .long l3)]) G.hx G.hb (dcs_get dec_X3_setDay_0 22 rfl) hl (by decide) rfl (fun ls hl => ?_)
  refine lv_aload_n G.hx G.hb (dcs_get dec_X3_setDay_0 23 rfl) rfl (lv_at hl 2 rfl) ?_
  obtain ⟨z26, e_z26, ok_z26, hf⟩ := cR_some hf
  have k_z26 := okr_in ok_z26
  refine r_getr (k := 0) cls3 fi_3_0.1 fi_3_0.2 q_328 G w k_a0.1 k_a0.2 e_z26 (dcs_get dec_X3_setDay_0 24 rfl) ?_
  refine lv_iconst (v := (0 : Int32)) G.hx G.hb (dcs_get dec_X3_setDay_0 25 rfl) (by decide) ?_
  refine lv_iconst (v := (0 : Int32)) G.hx G.hb (dcs_get dec_X3_setDay_0 26 rfl) (by decide) ?_
  obtain ⟨h27, hf⟩ := cG_some hf
  obtain ⟨σ28, e_σ28, hf⟩ := cL_some hf
  refine r_iast G w k_z26.1 k_z26.2 h27 (dcs_get dec_X3_setDay_0 27 rfl) (fun H locs w => ?_)
  have w := Wd.nm e_σ28 w
  refine lv_aload_n G.hx G.hb (dcs_get dec_X3_setDay_0 28 rfl) rfl (lv_at hl 2 rfl) ?_
  obtain ⟨z29, e_z29, ok_z29, hf⟩ := cR_some hf
  have k_z29 := okr_in ok_z29
  refine r_getr (k := 1) cls3 fi_3_1.1 fi_3_1.2 q_329 G w k_a0.1 k_a0.2 e_z29 (dcs_get dec_X3_setDay_0 29 rfl) ?_
  refine lv_iconst (v := (0 : Int32)) G.hx G.hb (dcs_get dec_X3_setDay_0 30 rfl) (by decide) ?_
  refine lv_iconst (v := (1 : Int32)) G.hx G.hb (dcs_get dec_X3_setDay_0 31 rfl) (by decide) ?_
  obtain ⟨h30, hf⟩ := cG_some hf
  obtain ⟨σ31, e_σ31, hf⟩ := cL_some hf
  refine r_zast G w k_z29.1 k_z29.2 h30 (dcs_get dec_X3_setDay_0 32 rfl) (fun H locs w => ?_)
  have w := Wd.nm e_σ31 w
  refine lv_iconst (v := (1 : Int32)) G.hx G.hb (dcs_get dec_X3_setDay_0 33 rfl) (by decide) ?_
  refine lv_istore (lv' := [(7, .int (1 : Int32)), (6, .int v25), (5, .int s0), (0, .ref (ad a0)), (1, .ref (ad a1)), (3, .long l3)]) G.hx G.hb (dcs_get dec_X3_setDay_0 34 rfl) hl (by decide) rfl (fun ls hl => ?_)
  exact B_X3_setDay_59 a0 a1 l3 s0 v25 (1 : Int32) σ31 G hm ok_a0 ok_a1 hf  w (lv_sub hl [3, 4, 5, 2, 1, 0] rfl)
set_option maxRecDepth 100000 in
set_option maxHeartbeats 4000000 in
theorem B_X3_setDay_26 {H : Heap} {locs : List Loc} {ls : Array Slot} {σ0 : hSt} (a0 : Nat) (a1 : Nat) (l3 : Int64) (σ : hSt) (G : Gx p m c cX3_setDay 10 s args RX3 D ay NC ad (aN NC ad)) (hm : meth.sig.returnType = none ∧ meth.locks = false) (ok_a0 : okr kC NC 3 a0 = true) (ok_a1 : okr kC NC 7 a1 = true) (hf : F_X3_setDay_26 a0 a1 l3 σ = some σ0)  (w : Wd D ay kC NC ad (aN NC ad) s σ H locs) (hl : lv_has ls 10 [(0, .ref (ad a0)), (1, .ref (ad a1)), (3, .long l3)]) : W p l e (rmK 4 95) s m args below meth c H locs 0 0 (MQ below (cV D ay kC NC ad σ0) args s 0 0 (aN NC ad)) (F0 m 26 ls []) := by
  have k_a0 := okr_in ok_a0
  have k_a1 := okr_in ok_a1
  unfold F_X3_setDay_26 at hf
  refine lv_iconst (v := (0 : Int32)) G.hx G.hb (dcs_get dec_X3_setDay_0 14 rfl) (by decide) ?_
  exact B_X3_setDay_27 a0 a1 l3 (0 : Int32) σ G hm ok_a0 ok_a1 hf  w (lv_sub hl [0, 1, 2] rfl)
set_option maxRecDepth 100000 in
set_option maxHeartbeats 4000000 in
theorem B_X3_setDay_0 {H : Heap} {locs : List Loc} {ls : Array Slot} {σ0 : hSt} (a0 : Nat) (a1 : Nat) (l2 : Int32) (σ : hSt) (G : Gx p m c cX3_setDay 10 s args RX3 D ay NC ad (aN NC ad)) (hm : meth.sig.returnType = none ∧ meth.locks = false) (ok_a0 : okr kC NC 3 a0 = true) (ok_a1 : okr kC NC 7 a1 = true) (hf : F_X3_setDay a0 a1 l2 σ = some σ0)  (w : Wd D ay kC NC ad (aN NC ad) s σ H locs) (hl : lv_has ls 10 [(0, .ref (ad a0)), (1, .ref (ad a1)), (2, .int l2)]) : W p l e (rmK 4 95) s m args below meth c H locs 0 0 (MQ below (cV D ay kC NC ad σ0) args s 0 0 (aN NC ad)) (F0 m 0 ls []) := by
  have k_a0 := okr_in ok_a0
  have k_a1 := okr_in ok_a1
  unfold F_X3_setDay at hf
  refine lv_aload_n G.hx G.hb (dcs_get dec_X3_setDay_0 0 rfl) rfl (lv_at hl 1 rfl) ?_
  refine lv_iload_n G.hx G.hb (dcs_get dec_X3_setDay_0 1 rfl) rfl (lv_at hl 2 rfl) ?_
  obtain ⟨v33, σ34, h32, hf⟩ := cC_some hf
  refine a_l (k_VN (As := [.int l2]) (rest := []) cls7 lb_X7_heardOn lv_X7_heardOn nm_880 (C_X7_heardOn G.2.2.1 a1 l2 σ h32 ok_a1) ⟨(Nat.le_of_ble_eq_true rfl), (Nat.le_of_ble_eq_true rfl)⟩ G w k_a1.1 k_a1.2 rfl rfl hl.1 (Nat.le_of_ble_eq_true rfl) (dcs_get dec_X3_setDay_0 2 rfl) ⟨Nat.le_refl _, Nat.le_refl _⟩) G w (fun H locs w => ?_)
  refine lv_lstore_n (lv' := [(3, .long v33), (0, .ref (ad a0)), (1, .ref (ad a1)), (2, .int l2)]) G.hx G.hb (dcs_get dec_X3_setDay_0 3 rfl) rfl hl (by decide) rfl (fun ls hl => ?_)
  refine lv_aload_n G.hx G.hb (dcs_get dec_X3_setDay_0 4 rfl) rfl (lv_at hl 2 rfl) ?_
  refine r_getiN (k := 8) cls7 fi_7_8.1 fi_7_8.2 nf_118 G w k_a1.1 k_a1.2 (dcs_get dec_X3_setDay_0 5 rfl) ?_
  refine lv_iconst (v := (1 : Int32)) G.hx G.hb (dcs_get dec_X3_setDay_0 6 rfl) (by decide) ?_
  refine lv_icmp_eq (tgt := 26) G.hx G.hb (dcs_get dec_X3_setDay_0 7 rfl) (by decide) (fun hc => ?_) (fun hc => ?_)
  · rw [if_pos hc] at hf
    exact B_X3_setDay_26 a0 a1 v33 σ34 G hm ok_a0 ok_a1 hf  w (lv_sub hl [1, 2, 0] rfl)
  · rw [if_neg hc] at hf
    refine lv_aload_n G.hx G.hb (dcs_get dec_X3_setDay_0 8 rfl) rfl (lv_at hl 2 rfl) ?_
    refine r_getiN (k := 8) cls7 fi_7_8.1 fi_7_8.2 nf_118 G w k_a1.1 k_a1.2 (dcs_get dec_X3_setDay_0 9 rfl) ?_
    refine lv_iconst (v := (2 : Int32)) G.hx G.hb (dcs_get dec_X3_setDay_0 10 rfl) (by decide) ?_
    refine lv_icmp_eq (tgt := 26) G.hx G.hb (dcs_get dec_X3_setDay_0 11 rfl) (by decide) (fun hc => ?_) (fun hc => ?_)
    · rw [if_pos hc] at hf
      exact B_X3_setDay_26 a0 a1 v33 σ34 G hm ok_a0 ok_a1 hf  w (lv_sub hl [1, 2, 0] rfl)
    · rw [if_neg hc] at hf
      refine lv_iconst (v := (1 : Int32)) G.hx G.hb (dcs_get dec_X3_setDay_0 12 rfl) (by decide) ?_
      refine lv_goto (tgt := 27) G.hx G.hb (dcs_get dec_X3_setDay_0 13 rfl) (by decide) ?_
      exact B_X3_setDay_27 a0 a1 v33 (1 : Int32) σ34 G hm ok_a0 ok_a1 hf  w (lv_sub hl [1, 2, 0] rfl)
end
set_option maxRecDepth 100000 in
set_option maxHeartbeats 4000000 in
theorem C_X3_setDay {l : Launch} {D : va_G} {ay : Nat → ClassId} {ad : Nat → Nat} (hi : hInj NC ad) (a0 : Nat) (a1 : Nat) (l2 : Int32) (σ : hSt) {σ0 : hSt} (hf : F_X3_setDay a0 a1 l2 σ = some σ0) (ok_a0 : okr kC NC 3 a0 = true) (ok_a1 : okr kC NC 7 a1 = true) : hM l D ay kC NC ad yX3_setDay cX3_setDay 10 (none) (rmK 4 95) [.ref (ad a0), .ref (ad a1), .int l2] σ (cV D ay kC NC ad σ0) := by
  refine hM_in (by decide) hi (Nat.le_of_ble_eq_true rfl) ?_
  intro p e s m below meth c G hm w ls hl
  exact B_X3_setDay_0 a0 a1 l2 σ G hm ok_a0 ok_a1 hf w (lv_sub hl [0, 1, 2] rfl)

/-! HillDrums.Plans.canSay(II)Z -/
def DL_X3_canSay_0 : List (Nat × Instr × Nat) := [(0, .iload_n 1, 1), (1, .iload_n 2, 1), (2, .iconst (-1), 1), (3, .ixor, 1), (4, .iand, 1), (5, .ifCond .ne 16, 3), (8, .aload_n 0, 1), (9, .getfield 15, 3), (12, .iload_n 1, 1), (13, .baload, 1), (14, .ifCond .eq 7, 3), (17, .iconst 1, 1), (18, .goto 4, 3), (21, .iconst 0, 1), (22, .ireturn, 1)]
set_option maxRecDepth 100000 in
theorem dec_X3_canSay_0 : dcs cX3_canSay DL_X3_canSay_0 = true := by decide +kernel
theorem lb_X3_canSay : lkB yX3_canSay cX3_canSay 3 ((some .boolean)) 2 := ⟨q_889, q_11, ⟨by decide, by decide⟩, by decide +kernel⟩
theorem lv_X3_canSay : lkV yX3_canSay := ⟨q_888, qs_56⟩
def F_X3_canSay_22 (s0 : Int32) (σ : hSt) : Option (Int32) :=
cG (isB s0) <|
some (s0)
def F_X3_canSay_21  (σ : hSt) : Option (Int32) :=
F_X3_canSay_22 (0 : Int32) σ
def F_X3_canSay (a0 : Nat) (l1 : Int32) (l2 : Int32) (σ : hSt) : Option (Int32) :=
if (l1 &&& (l2 ^^^ (-1 : Int32))) = 0 then (
cR (σ.2.2 a0 1) (okr kC NC 102) fun z2 =>
cG (inb l1 (kC z2).2) <|
if (σ.1 z2 l1.toNatClampNeg) = 0 then (
F_X3_canSay_21  σ) else (
F_X3_canSay_22 (1 : Int32) σ)) else (
F_X3_canSay_21  σ)
section
variable {p : Program} {l : Launch} {e : Env} {s : State} {m : MethodId} {args : Array Value} {below : List Frame} {meth : Method} {c : Code} {D : va_G} {ay : Nat → ClassId} {ad : Nat → Nat}
set_option maxRecDepth 100000 in
set_option maxHeartbeats 4000000 in
theorem B_X3_canSay_22 {H : Heap} {locs : List Loc} {ls : Array Slot} {r0 : Int32} (s0 : Int32) (σ : hSt) (G : Gx p m c cX3_canSay 3 s args RX3 D ay NC ad (aN NC ad)) (hm : meth.sig.returnType = (some .boolean) ∧ meth.locks = false)  (hf : F_X3_canSay_22 s0 σ = some r0)  (w : Wd D ay kC NC ad (aN NC ad) s σ H locs) (hl : lv_has ls 3 []) : W p l e (rmK 0 0) s m args below meth c H locs 0 0 (MQ below (cI D ay kC NC ad r0 σ) args s 0 0 (aN NC ad)) (F0 m 22 ls [.int s0]) := by
  unfold F_X3_canSay_22 at hf
  obtain ⟨h1, hf⟩ := cG_some hf
  have e9 := Option.some.inj hf
  exact r_zret (isB_nar h1) G w hm e9 rfl (dcs_get dec_X3_canSay_0 14 rfl)
set_option maxRecDepth 100000 in
set_option maxHeartbeats 4000000 in
theorem B_X3_canSay_21 {H : Heap} {locs : List Loc} {ls : Array Slot} {r0 : Int32}  (σ : hSt) (G : Gx p m c cX3_canSay 3 s args RX3 D ay NC ad (aN NC ad)) (hm : meth.sig.returnType = (some .boolean) ∧ meth.locks = false)  (hf : F_X3_canSay_21  σ = some r0)  (w : Wd D ay kC NC ad (aN NC ad) s σ H locs) (hl : lv_has ls 3 []) : W p l e (rmK 0 0) s m args below meth c H locs 0 0 (MQ below (cI D ay kC NC ad r0 σ) args s 0 0 (aN NC ad)) (F0 m 21 ls []) := by
  unfold F_X3_canSay_21 at hf
  refine lv_iconst (v := (0 : Int32)) G.hx G.hb (dcs_get dec_X3_canSay_0 13 rfl) (by decide) ?_
  exact B_X3_canSay_22 (0 : Int32) σ G hm  hf  w (lv_sub hl [] rfl)
set_option maxRecDepth 100000 in
set_option maxHeartbeats 4000000 in
theorem B_X3_canSay_0 {H : Heap} {locs : List Loc} {ls : Array Slot} {r0 : Int32} (a0 : Nat) (l1 : Int32) (l2 : Int32) (σ : hSt) (G : Gx p m c cX3_canSay 3 s args RX3 D ay NC ad (aN NC ad)) (hm : meth.sig.returnType = (some .boolean) ∧ meth.locks = false) (ok_a0 : okr kC NC 3 a0 = true) (hf : F_X3_canSay a0 l1 l2 σ = some r0)  (w : Wd D ay kC NC ad (aN NC ad) s σ H locs) (hl : lv_has ls 3 [(0, .ref (ad a0)), (1, .int l1), (2, .int l2)]) : W p l e (rmK 0 0) s m args below meth c H locs 0 0 (MQ below (cI D ay kC NC ad r0 σ) args s 0 0 (aN NC ad)) (F0 m 0 ls []) := by
  have k_a0 := okr_in ok_a0
  unfold F_X3_canSay at hf
  refine lv_iload_n G.hx G.hb (dcs_get dec_X3_canSay_0 0 rfl) rfl (lv_at hl 1 rfl) ?_
  refine lv_iload_n G.hx G.hb (dcs_get dec_X3_canSay_0 1 rfl) rfl (lv_at hl 2 rfl) ?_
  refine lv_iconst (v := (-1 : Int32)) G.hx G.hb (dcs_get dec_X3_canSay_0 2 rfl) (by decide) ?_
  refine lv_ixor G.hx G.hb (dcs_get dec_X3_canSay_0 3 rfl) ?_
  refine lv_iand G.hx G.hb (dcs_get dec_X3_canSay_0 4 rfl) ?_
  refine lv_if_ne (tgt := 21) G.hx G.hb (dcs_get dec_X3_canSay_0 5 rfl) (by decide) (fun hc => ?_) (fun hc => ?_)
  · rw [if_neg hc] at hf
    exact B_X3_canSay_21  σ G hm  hf  w (lv_sub hl [] rfl)
  · rw [if_pos hc] at hf
    refine lv_aload_n G.hx G.hb (dcs_get dec_X3_canSay_0 6 rfl) rfl (lv_at hl 0 rfl) ?_
    obtain ⟨z2, e_z2, ok_z2, hf⟩ := cR_some hf
    have k_z2 := okr_in ok_z2
    refine r_getr (k := 1) cls3 fi_3_1.1 fi_3_1.2 q_329 G w k_a0.1 k_a0.2 e_z2 (dcs_get dec_X3_canSay_0 7 rfl) ?_
    refine lv_iload_n G.hx G.hb (dcs_get dec_X3_canSay_0 8 rfl) rfl (lv_at hl 1 rfl) ?_
    obtain ⟨h3, hf⟩ := cG_some hf
    refine r_zald G w k_z2.1 k_z2.2 h3 (dcs_get dec_X3_canSay_0 9 rfl) ?_
    refine lv_if_eq (tgt := 21) G.hx G.hb (dcs_get dec_X3_canSay_0 10 rfl) (by decide) (fun hc => ?_) (fun hc => ?_)
    · rw [if_pos hc] at hf
      exact B_X3_canSay_21  σ G hm  hf  w (lv_sub hl [] rfl)
    · rw [if_neg hc] at hf
      refine lv_iconst (v := (1 : Int32)) G.hx G.hb (dcs_get dec_X3_canSay_0 11 rfl) (by decide) ?_
      refine lv_goto (tgt := 22) G.hx G.hb (dcs_get dec_X3_canSay_0 12 rfl) (by decide) ?_
      exact B_X3_canSay_22 (1 : Int32) σ G hm  hf  w (lv_sub hl [] rfl)
end
set_option maxRecDepth 100000 in
set_option maxHeartbeats 4000000 in
theorem C_X3_canSay {l : Launch} {D : va_G} {ay : Nat → ClassId} {ad : Nat → Nat} (hi : hInj NC ad) (a0 : Nat) (l1 : Int32) (l2 : Int32) (σ : hSt) {r0 : Int32} (hf : F_X3_canSay a0 l1 l2 σ = some r0) (ok_a0 : okr kC NC 3 a0 = true) : hM l D ay kC NC ad yX3_canSay cX3_canSay 3 ((some .boolean)) (rmK 0 0) [.ref (ad a0), .int l1, .int l2] σ (cI D ay kC NC ad r0 σ) := by
  refine hM_in (by decide) hi (Nat.le_of_ble_eq_true rfl) ?_
  intro p e s m below meth c G hm w ls hl
  exact B_X3_canSay_0 a0 l1 l2 σ G hm ok_a0 hf w (lv_sub hl [0, 1, 2] rfl)

/-! HillDrums.Plans.isReached(JII)Z -/
def DL_X3_isReached_0 : List (Nat × Instr × Nat) := [(0, .iconst 0, 1), (1, .istore 4, 2), (3, .iload 4, 2), (5, .iload_n 3, 1), (6, .if_icmp .ge 30, 3), (9, .lload_n 0, 1), (10, .iload 4, 2), (12, .lshr, 1), (13, .lconst 1, 1), (14, .land, 1), (15, .lconst 0, 1), (16, .lcmp, 1), (17, .ifCond .eq 13, 3), (20, .iload 4, 2), (22, .iload_n 2, 1), (23, .iand, 1), (24, .iload_n 2, 1), (25, .if_icmp .ne 5, 3), (28, .iconst 1, 1), (29, .ireturn, 1), (30, .iinc 4 1, 3), (33, .goto (-30), 3), (36, .iconst 0, 1), (37, .ireturn, 1)]
set_option maxRecDepth 100000 in
theorem dec_X3_isReached_0 : dcs cX3_isReached DL_X3_isReached_0 = true := by decide +kernel
theorem lb_X3_isReached : lkB yX3_isReached cX3_isReached 5 ((some .boolean)) 3 := ⟨q_875, q_11, ⟨by decide, by decide⟩, by decide +kernel⟩
def F_X3_isReached_30 (l0 : Int64) (l2 : Int32) (l3 : Int32) (l4 : Int32) (σ : hSt) : Option ((Int32) ⊕ (Int32)) :=
cL (l4 + (1 : Int32)) fun v1 =>
some (.inl (v1))
def F_X3_isReached_3b (l0 : Int64) (l2 : Int32) (l3 : Int32) (l4 : Int32) (σ : hSt) : Option ((Int32) ⊕ (Int32)) :=
if l3 ≤ l4 then (
some (.inr ((0 : Int32)))) else (
if (lg_cmp ((l0 >>> (l4.toInt64 &&& 63)) &&& (1 : Int64)) (0 : Int64)) = 0 then (
F_X3_isReached_30 l0 l2 l3 l4 σ) else (
if (l4 &&& l2) = l2 then (
some (.inr ((1 : Int32)))) else (
F_X3_isReached_30 l0 l2 l3 l4 σ)))
def S_X3_isReached_3 (l0 : Int64) (l2 : Int32) (l3 : Int32) (σ : hSt) (v : Int32) : Option ((Int32) ⊕ (Int32)) := F_X3_isReached_3b l0 l2 l3 v σ
def F_X3_isReached_3 (l0 : Int64) (l2 : Int32) (l3 : Int32) (l4 : Int32) (σ : hSt) : Option (Int32) := lp (S_X3_isReached_3 l0 l2 l3 σ) fuel (l4)
def F_X3_isReached (l0 : Int64) (l2 : Int32) (l3 : Int32) (σ : hSt) : Option (Int32) :=
F_X3_isReached_3 l0 l2 l3 (0 : Int32) σ
section
variable {p : Program} {l : Launch} {e : Env} {s : State} {m : MethodId} {args : Array Value} {below : List Frame} {meth : Method} {c : Code} {D : va_G} {ay : Nat → ClassId} {ad : Nat → Nat}
set_option maxRecDepth 100000 in
set_option maxHeartbeats 4000000 in
theorem B_X3_isReached_30 {H : Heap} {locs : List Loc} {ls : Array Slot} {r0 : Int32} {o : (Int32) ⊕ (Int32)} (l0 : Int64) (l2 : Int32) (l3 : Int32) (l4 : Int32) (σ : hSt) (G : Gx p m c cX3_isReached 5 s args RX3 D ay NC ad (aN NC ad)) (hm : meth.sig.returnType = (some .boolean) ∧ meth.locks = false)  (hf : F_X3_isReached_30 l0 l2 l3 l4 σ = some o) (hb0 : ∀ (v : Int32), o = .inl v → ∀ (H : Heap) (locs : List Loc) (ls : Array Slot), Wd D ay kC NC ad (aN NC ad) s σ H locs → lv_has ls 5 [(0, .long l0), (2, .int l2), (3, .int l3), (4, .int v)] → W p l e (rmK 0 0) s m args below meth c H locs 0 0 (MQ below (cI D ay kC NC ad r0 σ) args s 0 0 (aN NC ad)) (F0 m 3 ls [])) (hr : ∀ x, o = .inr (x) → x = r0) (w : Wd D ay kC NC ad (aN NC ad) s σ H locs) (hl : lv_has ls 5 [(0, .long l0), (2, .int l2), (3, .int l3), (4, .int l4)]) : W p l e (rmK 0 0) s m args below meth c H locs 0 0 (MQ below (cI D ay kC NC ad r0 σ) args s 0 0 (aN NC ad)) (F0 m 30 ls []) := by
  unfold F_X3_isReached_30 at hf
  obtain ⟨v1, e_v1, hf⟩ := cL_some hf
  refine lv_iinc (v := v1) (lv' := [(4, .int v1), (0, .long l0), (2, .int l2), (3, .int l3)]) G.hx G.hb (dcs_get dec_X3_isReached_0 20 rfl) hl (k := 3) rfl (by rw [e_v1]; rfl) (by decide) rfl (fun ls hl => ?_)
  refine lv_goto (tgt := 3) G.hx G.hb (dcs_get dec_X3_isReached_0 21 rfl) (by decide) ?_
  exact hb0 _ (Option.some.inj hf).symm _ _ _ w (lv_sub hl [1, 2, 3, 0] rfl)
set_option maxRecDepth 100000 in
set_option maxHeartbeats 4000000 in
theorem B_X3_isReached_3b {H : Heap} {locs : List Loc} {ls : Array Slot} {r0 : Int32} {o : (Int32) ⊕ (Int32)} (l0 : Int64) (l2 : Int32) (l3 : Int32) (l4 : Int32) (σ : hSt) (G : Gx p m c cX3_isReached 5 s args RX3 D ay NC ad (aN NC ad)) (hm : meth.sig.returnType = (some .boolean) ∧ meth.locks = false)  (hf : F_X3_isReached_3b l0 l2 l3 l4 σ = some o) (hb0 : ∀ (v : Int32), o = .inl v → ∀ (H : Heap) (locs : List Loc) (ls : Array Slot), Wd D ay kC NC ad (aN NC ad) s σ H locs → lv_has ls 5 [(0, .long l0), (2, .int l2), (3, .int l3), (4, .int v)] → W p l e (rmK 0 0) s m args below meth c H locs 0 0 (MQ below (cI D ay kC NC ad r0 σ) args s 0 0 (aN NC ad)) (F0 m 3 ls [])) (hr : ∀ x, o = .inr (x) → x = r0) (w : Wd D ay kC NC ad (aN NC ad) s σ H locs) (hl : lv_has ls 5 [(0, .long l0), (2, .int l2), (3, .int l3), (4, .int l4)]) : W p l e (rmK 0 0) s m args below meth c H locs 0 0 (MQ below (cI D ay kC NC ad r0 σ) args s 0 0 (aN NC ad)) (F0 m 3 ls []) := by
  unfold F_X3_isReached_3b at hf
  refine lv_iload G.hx G.hb (dcs_get dec_X3_isReached_0 2 rfl) (lv_at hl 3 rfl) ?_
  refine lv_iload_n G.hx G.hb (dcs_get dec_X3_isReached_0 3 rfl) rfl (lv_at hl 2 rfl) ?_
  refine lv_icmp_ge (tgt := 36) G.hx G.hb (dcs_get dec_X3_isReached_0 4 rfl) (by decide) (fun hc => ?_) (fun hc => ?_)
  · rw [if_pos hc] at hf
    refine lv_iconst (v := (0 : Int32)) G.hx G.hb (dcs_get dec_X3_isReached_0 22 rfl) (by decide) ?_
    have e9 := hr _ (Option.some.inj hf).symm
    exact r_zret rfl G w hm e9 rfl (dcs_get dec_X3_isReached_0 23 rfl)
  · rw [if_neg hc] at hf
    refine lv_lload_n G.hx G.hb (dcs_get dec_X3_isReached_0 5 rfl) rfl (lv_at hl 0 rfl) ?_
    refine lv_iload G.hx G.hb (dcs_get dec_X3_isReached_0 6 rfl) (lv_at hl 3 rfl) ?_
    refine lv_lshr G.hx G.hb (dcs_get dec_X3_isReached_0 7 rfl) rfl ?_
    refine lv_lconst (v := (1 : Int64)) G.hx G.hb (dcs_get dec_X3_isReached_0 8 rfl) (by decide) ?_
    refine lv_land G.hx G.hb (dcs_get dec_X3_isReached_0 9 rfl) ?_
    refine lv_lconst (v := (0 : Int64)) G.hx G.hb (dcs_get dec_X3_isReached_0 10 rfl) (by decide) ?_
    refine W.lcmp G.hx G.hb (dcs_get dec_X3_isReached_0 11 rfl) ?_
    refine lv_if_eq (tgt := 30) G.hx G.hb (dcs_get dec_X3_isReached_0 12 rfl) (by decide) (fun hc => ?_) (fun hc => ?_)
    · rw [if_pos hc] at hf
      exact B_X3_isReached_30 l0 l2 l3 l4 σ G hm  hf hb0 hr w (lv_sub hl [0, 1, 2, 3] rfl)
    · rw [if_neg hc] at hf
      refine lv_iload G.hx G.hb (dcs_get dec_X3_isReached_0 13 rfl) (lv_at hl 3 rfl) ?_
      refine lv_iload_n G.hx G.hb (dcs_get dec_X3_isReached_0 14 rfl) rfl (lv_at hl 1 rfl) ?_
      refine lv_iand G.hx G.hb (dcs_get dec_X3_isReached_0 15 rfl) ?_
      refine lv_iload_n G.hx G.hb (dcs_get dec_X3_isReached_0 16 rfl) rfl (lv_at hl 1 rfl) ?_
      refine lv_icmp_ne (tgt := 30) G.hx G.hb (dcs_get dec_X3_isReached_0 17 rfl) (by decide) (fun hc => ?_) (fun hc => ?_)
      · rw [if_neg hc] at hf
        exact B_X3_isReached_30 l0 l2 l3 l4 σ G hm  hf hb0 hr w (lv_sub hl [0, 1, 2, 3] rfl)
      · rw [if_pos hc] at hf
        refine lv_iconst (v := (1 : Int32)) G.hx G.hb (dcs_get dec_X3_isReached_0 18 rfl) (by decide) ?_
        have e9 := hr _ (Option.some.inj hf).symm
        exact r_zret rfl G w hm e9 rfl (dcs_get dec_X3_isReached_0 19 rfl)
set_option maxRecDepth 100000 in
set_option maxHeartbeats 4000000 in
theorem H_X3_isReached_3 {r0 : Int32} (l0 : Int64) (l2 : Int32) (l3 : Int32) (σ : hSt) (G : Gx p m c cX3_isReached 5 s args RX3 D ay NC ad (aN NC ad)) (hm : meth.sig.returnType = (some .boolean) ∧ meth.locks = false)   : ∀ (k : Nat) (v : Int32), lp (S_X3_isReached_3 l0 l2 l3 σ) k v = some r0 → ∀ (H : Heap) (locs : List Loc) (ls : Array Slot), Wd D ay kC NC ad (aN NC ad) s σ H locs → lv_has ls 5 [(0, .long l0), (2, .int l2), (3, .int l3), (4, .int v)] → W p l e (rmK 0 0) s m args below meth c H locs 0 0 (MQ below (cI D ay kC NC ad r0 σ) args s 0 0 (aN NC ad)) (F0 m 3 ls []) := by
  intro k
  induction k with
  | zero => intro v hf; cases hf
  | succ k ih =>
    intro v hf H locs ls w hl
    obtain ⟨o1, h1, h2, h3⟩ := lp_some hf
    exact B_X3_isReached_3b l0 l2 l3 v σ G hm  h1  (fun v' e => ih v' (h2 v' e)) (fun x e => h3 x e) w hl
set_option maxRecDepth 100000 in
set_option maxHeartbeats 4000000 in
theorem B_X3_isReached_3 {H : Heap} {locs : List Loc} {ls : Array Slot} {r0 : Int32} (l0 : Int64) (l2 : Int32) (l3 : Int32) (l4 : Int32) (σ : hSt) (G : Gx p m c cX3_isReached 5 s args RX3 D ay NC ad (aN NC ad)) (hm : meth.sig.returnType = (some .boolean) ∧ meth.locks = false)  (hf : F_X3_isReached_3 l0 l2 l3 l4 σ = some r0)  (w : Wd D ay kC NC ad (aN NC ad) s σ H locs) (hl : lv_has ls 5 [(0, .long l0), (2, .int l2), (3, .int l3), (4, .int l4)]) : W p l e (rmK 0 0) s m args below meth c H locs 0 0 (MQ below (cI D ay kC NC ad r0 σ) args s 0 0 (aN NC ad)) (F0 m 3 ls []) := by
  unfold F_X3_isReached_3 at hf
  exact H_X3_isReached_3 l0 l2 l3 σ G hm   fuel (l4) hf _ _ _ w hl
set_option maxRecDepth 100000 in
set_option maxHeartbeats 4000000 in
theorem B_X3_isReached_0 {H : Heap} {locs : List Loc} {ls : Array Slot} {r0 : Int32} (l0 : Int64) (l2 : Int32) (l3 : Int32) (σ : hSt) (G : Gx p m c cX3_isReached 5 s args RX3 D ay NC ad (aN NC ad)) (hm : meth.sig.returnType = (some .boolean) ∧ meth.locks = false)  (hf : F_X3_isReached l0 l2 l3 σ = some r0)  (w : Wd D ay kC NC ad (aN NC ad) s σ H locs) (hl : lv_has ls 5 [(0, .long l0), (2, .int l2), (3, .int l3)]) : W p l e (rmK 0 0) s m args below meth c H locs 0 0 (MQ below (cI D ay kC NC ad r0 σ) args s 0 0 (aN NC ad)) (F0 m 0 ls []) := by
  unfold F_X3_isReached at hf
  refine lv_iconst (v := (0 : Int32)) G.hx G.hb (dcs_get dec_X3_isReached_0 0 rfl) (by decide) ?_
  refine lv_istore (lv' := [(4, .int (0 : Int32)), (0, .long l0), (2, .int l2), (3, .int l3)]) G.hx G.hb (dcs_get dec_X3_isReached_0 1 rfl) hl (by decide) rfl (fun ls hl => ?_)
  exact B_X3_isReached_3 l0 l2 l3 (0 : Int32) σ G hm  hf  w (lv_sub hl [1, 2, 3, 0] rfl)
end
set_option maxRecDepth 100000 in
set_option maxHeartbeats 4000000 in
theorem C_X3_isReached {l : Launch} {D : va_G} {ay : Nat → ClassId} {ad : Nat → Nat} (hi : hInj NC ad) (l0 : Int64) (l2 : Int32) (l3 : Int32) (σ : hSt) {r0 : Int32} (hf : F_X3_isReached l0 l2 l3 σ = some r0)  : hM l D ay kC NC ad yX3_isReached cX3_isReached 5 ((some .boolean)) (rmK 0 0) [.long l0, .int l2, .int l3] σ (cI D ay kC NC ad r0 σ) := by
  refine hM_in (by decide) hi (Nat.le_of_ble_eq_true rfl) ?_
  intro p e s m below meth c G hm w ls hl
  exact B_X3_isReached_0 l0 l2 l3 σ G hm  hf w (lv_sub hl [0, 1, 2] rfl)

/-! HillDrums.Plans.reachedNext(JI)J -/
def DL_X3_reachedNext_0 : List (Nat × Instr × Nat) := [(0, .lload_n 1, 1), (1, .lstore 4, 2), (3, .iconst 0, 1), (4, .istore 6, 2), (6, .iload 6, 2), (8, .iload_n 3, 1), (9, .if_icmp .ge 64, 3), (12, .lload_n 1, 1), (13, .iload 6, 2), (15, .lshr, 1), (16, .lconst 1, 1), (17, .land, 1), (18, .lconst 0, 1), (19, .lcmp, 1), (20, .ifCond .eq 47, 3), (23, .iconst 1, 1), (24, .istore 7, 2), (26, .iload 7, 2), (28, .iload 6, 2), (30, .if_icmp .gt 37, 3), (33, .aload_n 0, 1), (34, .iload 7, 2), (36, .iload 6, 2), (38, .invokevirtual 71, 3), (41, .ifCond .eq 20, 3), (44, .lload 4, 2), (46, .lconst 1, 1), (47, .iload 6, 2), (49, .aload_n 0, 1), (50, .getfield 9, 3), (53, .iload 7, 2), (55, .iaload, 1), (56, .ior, 1), (57, .lshl, 1), (58, .lor, 1), (59, .lstore 4, 2), (61, .iinc 7 1, 3), (64, .goto (-38), 3), (67, .iinc 6 1, 3), (70, .goto (-64), 3)]
set_option maxRecDepth 100000 in
theorem dec_X3_reachedNext_0 : dcs cX3_reachedNext DL_X3_reachedNext_0 = true := by decide +kernel
def DL_X3_reachedNext_1 : List (Nat × Instr × Nat) := [(73, .lload 4, 2), (75, .lreturn, 1)]
set_option maxRecDepth 100000 in
theorem dec_X3_reachedNext_1 : dcs cX3_reachedNext DL_X3_reachedNext_1 = true := by decide +kernel
theorem lb_X3_reachedNext : lkB yX3_reachedNext cX3_reachedNext 8 ((some .long)) 2 := ⟨q_885, q_11, ⟨by decide, by decide⟩, by decide +kernel⟩
theorem lv_X3_reachedNext : lkV yX3_reachedNext := ⟨q_884, qs_55⟩
def F_X3_reachedNext_61 (a0 : Nat) (l1 : Int64) (l3 : Int32) (l4 : Int64) (l6 : Int32) (l7 : Int32) (σ : hSt) : Option ((Int64 × Int32) ⊕ ((Int64 × Int32) ⊕ (Int64))) :=
cL (l7 + (1 : Int32)) fun v1 =>
some (.inl (l4, v1))
def F_X3_reachedNext_67 (a0 : Nat) (l1 : Int64) (l3 : Int32) (l4 : Int64) (l6 : Int32) (σ : hSt) : Option ((Int64 × Int32) ⊕ (Int64)) :=
cL (l6 + (1 : Int32)) fun v2 =>
some (.inl (l4, v2))
def F_X3_reachedNext_26b (a0 : Nat) (l1 : Int64) (l3 : Int32) (l4 : Int64) (l6 : Int32) (l7 : Int32) (σ : hSt) : Option ((Int64 × Int32) ⊕ ((Int64 × Int32) ⊕ (Int64))) :=
if l6 < l7 then (
(F_X3_reachedNext_67 a0 l1 l3 l4 l6 σ).map (fun x => .inr (x))) else (
(F_X3_canSay a0 l7 l6 σ).bind fun v4 =>
if v4 = 0 then (
F_X3_reachedNext_61 a0 l1 l3 l4 l6 l7 σ) else (
cR (σ.2.2 a0 0) (okr kC NC 101) fun z5 =>
cG (inb l7 (kC z5).2) <|
cL (l4 ||| ((1 : Int64) <<< ((l6 ||| (σ.1 z5 l7.toNatClampNeg)).toInt64 &&& 63))) fun v7 =>
F_X3_reachedNext_61 a0 l1 l3 v7 l6 l7 σ))
def S_X3_reachedNext_26 (a0 : Nat) (l1 : Int64) (l3 : Int32) (l6 : Int32) (σ : hSt) (v : Int64 × Int32) : Option ((Int64 × Int32) ⊕ ((Int64 × Int32) ⊕ (Int64))) := F_X3_reachedNext_26b a0 l1 l3 v.1 l6 v.2 σ
def F_X3_reachedNext_26 (a0 : Nat) (l1 : Int64) (l3 : Int32) (l4 : Int64) (l6 : Int32) (l7 : Int32) (σ : hSt) : Option ((Int64 × Int32) ⊕ (Int64)) := lp (S_X3_reachedNext_26 a0 l1 l3 l6 σ) fuel (l4, l7)
def F_X3_reachedNext_6b (a0 : Nat) (l1 : Int64) (l3 : Int32) (l4 : Int64) (l6 : Int32) (σ : hSt) : Option ((Int64 × Int32) ⊕ (Int64)) :=
if l3 ≤ l6 then (
some (.inr (l4))) else (
if (lg_cmp ((l1 >>> (l6.toInt64 &&& 63)) &&& (1 : Int64)) (0 : Int64)) = 0 then (
F_X3_reachedNext_67 a0 l1 l3 l4 l6 σ) else (
F_X3_reachedNext_26 a0 l1 l3 l4 l6 (1 : Int32) σ))
def S_X3_reachedNext_6 (a0 : Nat) (l1 : Int64) (l3 : Int32) (σ : hSt) (v : Int64 × Int32) : Option ((Int64 × Int32) ⊕ (Int64)) := F_X3_reachedNext_6b a0 l1 l3 v.1 v.2 σ
def F_X3_reachedNext_6 (a0 : Nat) (l1 : Int64) (l3 : Int32) (l4 : Int64) (l6 : Int32) (σ : hSt) : Option (Int64) := lp (S_X3_reachedNext_6 a0 l1 l3 σ) fuel (l4, l6)
def F_X3_reachedNext (a0 : Nat) (l1 : Int64) (l3 : Int32) (σ : hSt) : Option (Int64) :=
F_X3_reachedNext_6 a0 l1 l3 l1 (0 : Int32) σ
section
variable {p : Program} {l : Launch} {e : Env} {s : State} {m : MethodId} {args : Array Value} {below : List Frame} {meth : Method} {c : Code} {D : va_G} {ay : Nat → ClassId} {ad : Nat → Nat}
set_option maxRecDepth 100000 in
set_option maxHeartbeats 4000000 in
theorem B_X3_reachedNext_61 {H : Heap} {locs : List Loc} {ls : Array Slot} {r0 : Int64} {o : (Int64 × Int32) ⊕ ((Int64 × Int32) ⊕ (Int64))} (a0 : Nat) (l1 : Int64) (l3 : Int32) (l4 : Int64) (l6 : Int32) (l7 : Int32) (σ : hSt) (G : Gx p m c cX3_reachedNext 8 s args RX3 D ay NC ad (aN NC ad)) (hm : meth.sig.returnType = (some .long) ∧ meth.locks = false) (ok_a0 : okr kC NC 3 a0 = true) (hf : F_X3_reachedNext_61 a0 l1 l3 l4 l6 l7 σ = some o) (hb0 : ∀ (v : Int64 × Int32), o = .inr (.inl v) → ∀ (H : Heap) (locs : List Loc) (ls : Array Slot), Wd D ay kC NC ad (aN NC ad) s σ H locs → lv_has ls 8 [(0, .ref (ad a0)), (1, .long l1), (3, .int l3), (4, .long v.1), (6, .int v.2)] → W p l e (rmK 1 22) s m args below meth c H locs 0 0 (MQ below (cJ D ay kC NC ad r0 σ) args s 0 0 (aN NC ad)) (F0 m 6 ls [])) (hb1 : ∀ (v : Int64 × Int32), o = .inl v → ∀ (H : Heap) (locs : List Loc) (ls : Array Slot), Wd D ay kC NC ad (aN NC ad) s σ H locs → lv_has ls 8 [(0, .ref (ad a0)), (1, .long l1), (3, .int l3), (4, .long v.1), (6, .int l6), (7, .int v.2)] → W p l e (rmK 1 22) s m args below meth c H locs 0 0 (MQ below (cJ D ay kC NC ad r0 σ) args s 0 0 (aN NC ad)) (F0 m 26 ls [])) (hr : ∀ x, o = .inr (.inr (x)) → x = r0) (w : Wd D ay kC NC ad (aN NC ad) s σ H locs) (hl : lv_has ls 8 [(0, .ref (ad a0)), (1, .long l1), (3, .int l3), (4, .long l4), (6, .int l6), (7, .int l7)]) : W p l e (rmK 1 22) s m args below meth c H locs 0 0 (MQ below (cJ D ay kC NC ad r0 σ) args s 0 0 (aN NC ad)) (F0 m 61 ls []) := by
  have k_a0 := okr_in ok_a0
  unfold F_X3_reachedNext_61 at hf
  obtain ⟨v1, e_v1, hf⟩ := cL_some hf
  refine lv_iinc (v := v1) (lv' := [(7, .int v1), (0, .ref (ad a0)), (1, .long l1), (3, .int l3), (4, .long l4), (6, .int l6)]) G.hx G.hb (dcs_get dec_X3_reachedNext_0 36 rfl) hl (k := 5) rfl (by rw [e_v1]; rfl) (by decide) rfl (fun ls hl => ?_)
  refine lv_goto (tgt := 26) G.hx G.hb (dcs_get dec_X3_reachedNext_0 37 rfl) (by decide) ?_
  exact hb1 _ (Option.some.inj hf).symm _ _ _ w (lv_sub hl [1, 2, 3, 4, 5, 0] rfl)
set_option maxRecDepth 100000 in
set_option maxHeartbeats 4000000 in
theorem B_X3_reachedNext_67 {H : Heap} {locs : List Loc} {ls : Array Slot} {r0 : Int64} {o : (Int64 × Int32) ⊕ (Int64)} (a0 : Nat) (l1 : Int64) (l3 : Int32) (l4 : Int64) (l6 : Int32) (σ : hSt) (G : Gx p m c cX3_reachedNext 8 s args RX3 D ay NC ad (aN NC ad)) (hm : meth.sig.returnType = (some .long) ∧ meth.locks = false) (ok_a0 : okr kC NC 3 a0 = true) (hf : F_X3_reachedNext_67 a0 l1 l3 l4 l6 σ = some o) (hb0 : ∀ (v : Int64 × Int32), o = .inl v → ∀ (H : Heap) (locs : List Loc) (ls : Array Slot), Wd D ay kC NC ad (aN NC ad) s σ H locs → lv_has ls 8 [(0, .ref (ad a0)), (1, .long l1), (3, .int l3), (4, .long v.1), (6, .int v.2)] → W p l e (rmK 1 22) s m args below meth c H locs 0 0 (MQ below (cJ D ay kC NC ad r0 σ) args s 0 0 (aN NC ad)) (F0 m 6 ls [])) (hr : ∀ x, o = .inr (x) → x = r0) (w : Wd D ay kC NC ad (aN NC ad) s σ H locs) (hl : lv_has ls 8 [(0, .ref (ad a0)), (1, .long l1), (3, .int l3), (4, .long l4), (6, .int l6)]) : W p l e (rmK 1 22) s m args below meth c H locs 0 0 (MQ below (cJ D ay kC NC ad r0 σ) args s 0 0 (aN NC ad)) (F0 m 67 ls []) := by
  have k_a0 := okr_in ok_a0
  unfold F_X3_reachedNext_67 at hf
  obtain ⟨v2, e_v2, hf⟩ := cL_some hf
  refine lv_iinc (v := v2) (lv' := [(6, .int v2), (0, .ref (ad a0)), (1, .long l1), (3, .int l3), (4, .long l4)]) G.hx G.hb (dcs_get dec_X3_reachedNext_0 38 rfl) hl (k := 4) rfl (by rw [e_v2]; rfl) (by decide) rfl (fun ls hl => ?_)
  refine lv_goto (tgt := 6) G.hx G.hb (dcs_get dec_X3_reachedNext_0 39 rfl) (by decide) ?_
  exact hb0 _ (Option.some.inj hf).symm _ _ _ w (lv_sub hl [1, 2, 3, 4, 0] rfl)
set_option maxRecDepth 100000 in
set_option maxHeartbeats 4000000 in
theorem B_X3_reachedNext_26b {H : Heap} {locs : List Loc} {ls : Array Slot} {r0 : Int64} {o : (Int64 × Int32) ⊕ ((Int64 × Int32) ⊕ (Int64))} (a0 : Nat) (l1 : Int64) (l3 : Int32) (l4 : Int64) (l6 : Int32) (l7 : Int32) (σ : hSt) (G : Gx p m c cX3_reachedNext 8 s args RX3 D ay NC ad (aN NC ad)) (hm : meth.sig.returnType = (some .long) ∧ meth.locks = false) (ok_a0 : okr kC NC 3 a0 = true) (hf : F_X3_reachedNext_26b a0 l1 l3 l4 l6 l7 σ = some o) (hb0 : ∀ (v : Int64 × Int32), o = .inr (.inl v) → ∀ (H : Heap) (locs : List Loc) (ls : Array Slot), Wd D ay kC NC ad (aN NC ad) s σ H locs → lv_has ls 8 [(0, .ref (ad a0)), (1, .long l1), (3, .int l3), (4, .long v.1), (6, .int v.2)] → W p l e (rmK 1 22) s m args below meth c H locs 0 0 (MQ below (cJ D ay kC NC ad r0 σ) args s 0 0 (aN NC ad)) (F0 m 6 ls [])) (hb1 : ∀ (v : Int64 × Int32), o = .inl v → ∀ (H : Heap) (locs : List Loc) (ls : Array Slot), Wd D ay kC NC ad (aN NC ad) s σ H locs → lv_has ls 8 [(0, .ref (ad a0)), (1, .long l1), (3, .int l3), (4, .long v.1), (6, .int l6), (7, .int v.2)] → W p l e (rmK 1 22) s m args below meth c H locs 0 0 (MQ below (cJ D ay kC NC ad r0 σ) args s 0 0 (aN NC ad)) (F0 m 26 ls [])) (hr : ∀ x, o = .inr (.inr (x)) → x = r0) (w : Wd D ay kC NC ad (aN NC ad) s σ H locs) (hl : lv_has ls 8 [(0, .ref (ad a0)), (1, .long l1), (3, .int l3), (4, .long l4), (6, .int l6), (7, .int l7)]) : W p l e (rmK 1 22) s m args below meth c H locs 0 0 (MQ below (cJ D ay kC NC ad r0 σ) args s 0 0 (aN NC ad)) (F0 m 26 ls []) := by
  have k_a0 := okr_in ok_a0
  unfold F_X3_reachedNext_26b at hf
  refine lv_iload G.hx G.hb (dcs_get dec_X3_reachedNext_0 17 rfl) (lv_at hl 5 rfl) ?_
  refine lv_iload G.hx G.hb (dcs_get dec_X3_reachedNext_0 18 rfl) (lv_at hl 4 rfl) ?_
  refine lv_icmp_gt (tgt := 67) G.hx G.hb (dcs_get dec_X3_reachedNext_0 19 rfl) (by decide) (fun hc => ?_) (fun hc => ?_)
  · rw [if_pos hc] at hf
    obtain ⟨x9, h9, e9⟩ := map_some_inv hf
    subst e9
    exact B_X3_reachedNext_67 a0 l1 l3 l4 l6 σ G hm ok_a0 h9 (fun v e => hb0 v (by rw [e])) (fun x e => hr x (by rw [e])) w (lv_sub hl [0, 1, 2, 3, 4] rfl)
  · rw [if_neg hc] at hf
    refine lv_aload_n G.hx G.hb (dcs_get dec_X3_reachedNext_0 20 rfl) rfl (lv_at hl 0 rfl) ?_
    refine lv_iload G.hx G.hb (dcs_get dec_X3_reachedNext_0 21 rfl) (lv_at hl 5 rfl) ?_
    refine lv_iload G.hx G.hb (dcs_get dec_X3_reachedNext_0 22 rfl) (lv_at hl 4 rfl) ?_
    obtain ⟨v4, h3, hf⟩ := cB_some hf
    refine a_i (k_V (As := [.int l7, .int l6]) (rest := []) cls3 lb_X3_canSay lv_X3_canSay q_886 (C_X3_canSay G.2.2.1 a0 l7 l6 σ h3 ok_a0) ⟨(Nat.le_of_ble_eq_true rfl), (Nat.le_of_ble_eq_true rfl)⟩ G w k_a0.1 k_a0.2 rfl rfl hl.1 (Nat.le_of_ble_eq_true rfl) (dcs_get dec_X3_reachedNext_0 23 rfl) ⟨Nat.le_refl _, Nat.le_refl _⟩) G w (fun H locs w => ?_)
    refine lv_if_eq (tgt := 61) G.hx G.hb (dcs_get dec_X3_reachedNext_0 24 rfl) (by decide) (fun hc => ?_) (fun hc => ?_)
    · rw [if_pos hc] at hf
      exact B_X3_reachedNext_61 a0 l1 l3 l4 l6 l7 σ G hm ok_a0 hf hb0 hb1 hr w (lv_sub hl [0, 1, 2, 3, 4, 5] rfl)
    · rw [if_neg hc] at hf
      refine lv_lload G.hx G.hb (dcs_get dec_X3_reachedNext_0 25 rfl) (lv_at hl 3 rfl) ?_
      refine lv_lconst (v := (1 : Int64)) G.hx G.hb (dcs_get dec_X3_reachedNext_0 26 rfl) (by decide) ?_
      refine lv_iload G.hx G.hb (dcs_get dec_X3_reachedNext_0 27 rfl) (lv_at hl 4 rfl) ?_
      refine lv_aload_n G.hx G.hb (dcs_get dec_X3_reachedNext_0 28 rfl) rfl (lv_at hl 0 rfl) ?_
      obtain ⟨z5, e_z5, ok_z5, hf⟩ := cR_some hf
      have k_z5 := okr_in ok_z5
      refine r_getr (k := 0) cls3 fi_3_0.1 fi_3_0.2 q_328 G w k_a0.1 k_a0.2 e_z5 (dcs_get dec_X3_reachedNext_0 29 rfl) ?_
      refine lv_iload G.hx G.hb (dcs_get dec_X3_reachedNext_0 30 rfl) (lv_at hl 5 rfl) ?_
      obtain ⟨h6, hf⟩ := cG_some hf
      refine r_iald G w k_z5.1 k_z5.2 h6 (dcs_get dec_X3_reachedNext_0 31 rfl) ?_
      refine lv_ior G.hx G.hb (dcs_get dec_X3_reachedNext_0 32 rfl) ?_
      refine lv_lshl G.hx G.hb (dcs_get dec_X3_reachedNext_0 33 rfl) rfl ?_
      refine lv_lor G.hx G.hb (dcs_get dec_X3_reachedNext_0 34 rfl) ?_
      obtain ⟨v7, e_v7, hf⟩ := cL_some hf
      refine r_topl e_v7 ?_
      refine lv_lstore (lv' := [(4, .long v7), (0, .ref (ad a0)), (1, .long l1), (3, .int l3), (6, .int l6), (7, .int l7)]) G.hx G.hb (dcs_get dec_X3_reachedNext_0 35 rfl) hl (by decide) rfl (fun ls hl => ?_)
      exact B_X3_reachedNext_61 a0 l1 l3 v7 l6 l7 σ G hm ok_a0 hf hb0 hb1 hr w (lv_sub hl [1, 2, 3, 0, 4, 5] rfl)
set_option maxRecDepth 100000 in
set_option maxHeartbeats 4000000 in
theorem H_X3_reachedNext_26 {r0 : Int64} {o : (Int64 × Int32) ⊕ (Int64)} (a0 : Nat) (l1 : Int64) (l3 : Int32) (l6 : Int32) (σ : hSt) (G : Gx p m c cX3_reachedNext 8 s args RX3 D ay NC ad (aN NC ad)) (hm : meth.sig.returnType = (some .long) ∧ meth.locks = false) (ok_a0 : okr kC NC 3 a0 = true) (hb0 : ∀ (v : Int64 × Int32), o = .inl v → ∀ (H : Heap) (locs : List Loc) (ls : Array Slot), Wd D ay kC NC ad (aN NC ad) s σ H locs → lv_has ls 8 [(0, .ref (ad a0)), (1, .long l1), (3, .int l3), (4, .long v.1), (6, .int v.2)] → W p l e (rmK 1 22) s m args below meth c H locs 0 0 (MQ below (cJ D ay kC NC ad r0 σ) args s 0 0 (aN NC ad)) (F0 m 6 ls [])) (hr : ∀ x, o = .inr (x) → x = r0) : ∀ (k : Nat) (v : Int64 × Int32), lp (S_X3_reachedNext_26 a0 l1 l3 l6 σ) k v = some o → ∀ (H : Heap) (locs : List Loc) (ls : Array Slot), Wd D ay kC NC ad (aN NC ad) s σ H locs → lv_has ls 8 [(0, .ref (ad a0)), (1, .long l1), (3, .int l3), (4, .long v.1), (6, .int l6), (7, .int v.2)] → W p l e (rmK 1 22) s m args below meth c H locs 0 0 (MQ below (cJ D ay kC NC ad r0 σ) args s 0 0 (aN NC ad)) (F0 m 26 ls []) := by
  intro k
  induction k with
  | zero => intro v hf; cases hf
  | succ k ih =>
    intro v hf H locs ls w hl
    obtain ⟨o1, h1, h2, h3⟩ := lp_some hf
    exact B_X3_reachedNext_26b a0 l1 l3 v.1 l6 v.2 σ G hm ok_a0 h1 (fun v' e => hb0 v' (h3 _ e).symm) (fun v' e => ih v' (h2 v' e)) (fun x e => hr x (h3 _ e).symm) w hl
set_option maxRecDepth 100000 in
set_option maxHeartbeats 4000000 in
theorem B_X3_reachedNext_26 {H : Heap} {locs : List Loc} {ls : Array Slot} {r0 : Int64} {o : (Int64 × Int32) ⊕ (Int64)} (a0 : Nat) (l1 : Int64) (l3 : Int32) (l4 : Int64) (l6 : Int32) (l7 : Int32) (σ : hSt) (G : Gx p m c cX3_reachedNext 8 s args RX3 D ay NC ad (aN NC ad)) (hm : meth.sig.returnType = (some .long) ∧ meth.locks = false) (ok_a0 : okr kC NC 3 a0 = true) (hf : F_X3_reachedNext_26 a0 l1 l3 l4 l6 l7 σ = some o) (hb0 : ∀ (v : Int64 × Int32), o = .inl v → ∀ (H : Heap) (locs : List Loc) (ls : Array Slot), Wd D ay kC NC ad (aN NC ad) s σ H locs → lv_has ls 8 [(0, .ref (ad a0)), (1, .long l1), (3, .int l3), (4, .long v.1), (6, .int v.2)] → W p l e (rmK 1 22) s m args below meth c H locs 0 0 (MQ below (cJ D ay kC NC ad r0 σ) args s 0 0 (aN NC ad)) (F0 m 6 ls [])) (hr : ∀ x, o = .inr (x) → x = r0) (w : Wd D ay kC NC ad (aN NC ad) s σ H locs) (hl : lv_has ls 8 [(0, .ref (ad a0)), (1, .long l1), (3, .int l3), (4, .long l4), (6, .int l6), (7, .int l7)]) : W p l e (rmK 1 22) s m args below meth c H locs 0 0 (MQ below (cJ D ay kC NC ad r0 σ) args s 0 0 (aN NC ad)) (F0 m 26 ls []) := by
  unfold F_X3_reachedNext_26 at hf
  exact H_X3_reachedNext_26 a0 l1 l3 l6 σ G hm ok_a0 hb0 hr fuel (l4, l7) hf _ _ _ w hl
set_option maxRecDepth 100000 in
set_option maxHeartbeats 4000000 in
theorem B_X3_reachedNext_6b {H : Heap} {locs : List Loc} {ls : Array Slot} {r0 : Int64} {o : (Int64 × Int32) ⊕ (Int64)} (a0 : Nat) (l1 : Int64) (l3 : Int32) (l4 : Int64) (l6 : Int32) (σ : hSt) (G : Gx p m c cX3_reachedNext 8 s args RX3 D ay NC ad (aN NC ad)) (hm : meth.sig.returnType = (some .long) ∧ meth.locks = false) (ok_a0 : okr kC NC 3 a0 = true) (hf : F_X3_reachedNext_6b a0 l1 l3 l4 l6 σ = some o) (hb0 : ∀ (v : Int64 × Int32), o = .inl v → ∀ (H : Heap) (locs : List Loc) (ls : Array Slot), Wd D ay kC NC ad (aN NC ad) s σ H locs → lv_has ls 8 [(0, .ref (ad a0)), (1, .long l1), (3, .int l3), (4, .long v.1), (6, .int v.2)] → W p l e (rmK 1 22) s m args below meth c H locs 0 0 (MQ below (cJ D ay kC NC ad r0 σ) args s 0 0 (aN NC ad)) (F0 m 6 ls [])) (hr : ∀ x, o = .inr (x) → x = r0) (w : Wd D ay kC NC ad (aN NC ad) s σ H locs) (hl : lv_has ls 8 [(0, .ref (ad a0)), (1, .long l1), (3, .int l3), (4, .long l4), (6, .int l6)]) : W p l e (rmK 1 22) s m args below meth c H locs 0 0 (MQ below (cJ D ay kC NC ad r0 σ) args s 0 0 (aN NC ad)) (F0 m 6 ls []) := by
  have k_a0 := okr_in ok_a0
  unfold F_X3_reachedNext_6b at hf
  refine lv_iload G.hx G.hb (dcs_get dec_X3_reachedNext_0 4 rfl) (lv_at hl 4 rfl) ?_
  refine lv_iload_n G.hx G.hb (dcs_get dec_X3_reachedNext_0 5 rfl) rfl (lv_at hl 2 rfl) ?_
  refine lv_icmp_ge (tgt := 73) G.hx G.hb (dcs_get dec_X3_reachedNext_0 6 rfl) (by decide) (fun hc => ?_) (fun hc => ?_)
  · rw [if_pos hc] at hf
    refine lv_lload G.hx G.hb (dcs_get dec_X3_reachedNext_1 0 rfl) (lv_at hl 3 rfl) ?_
    have e9 := hr _ (Option.some.inj hf).symm
    exact r_lret G w hm e9 rfl (dcs_get dec_X3_reachedNext_1 1 rfl)
  · rw [if_neg hc] at hf
    refine lv_lload_n G.hx G.hb (dcs_get dec_X3_reachedNext_0 7 rfl) rfl (lv_at hl 1 rfl) ?_
    refine lv_iload G.hx G.hb (dcs_get dec_X3_reachedNext_0 8 rfl) (lv_at hl 4 rfl) ?_
    refine lv_lshr G.hx G.hb (dcs_get dec_X3_reachedNext_0 9 rfl) rfl ?_
    refine lv_lconst (v := (1 : Int64)) G.hx G.hb (dcs_get dec_X3_reachedNext_0 10 rfl) (by decide) ?_
    refine lv_land G.hx G.hb (dcs_get dec_X3_reachedNext_0 11 rfl) ?_
    refine lv_lconst (v := (0 : Int64)) G.hx G.hb (dcs_get dec_X3_reachedNext_0 12 rfl) (by decide) ?_
    refine W.lcmp G.hx G.hb (dcs_get dec_X3_reachedNext_0 13 rfl) ?_
    refine lv_if_eq (tgt := 67) G.hx G.hb (dcs_get dec_X3_reachedNext_0 14 rfl) (by decide) (fun hc => ?_) (fun hc => ?_)
    · rw [if_pos hc] at hf
      exact B_X3_reachedNext_67 a0 l1 l3 l4 l6 σ G hm ok_a0 hf hb0 hr w (lv_sub hl [0, 1, 2, 3, 4] rfl)
    · rw [if_neg hc] at hf
      refine lv_iconst (v := (1 : Int32)) G.hx G.hb (dcs_get dec_X3_reachedNext_0 15 rfl) (by decide) ?_
      refine lv_istore (lv' := [(7, .int (1 : Int32)), (0, .ref (ad a0)), (1, .long l1), (3, .int l3), (4, .long l4), (6, .int l6)]) G.hx G.hb (dcs_get dec_X3_reachedNext_0 16 rfl) hl (by decide) rfl (fun ls hl => ?_)
      exact B_X3_reachedNext_26 a0 l1 l3 l4 l6 (1 : Int32) σ G hm ok_a0 hf hb0 hr w (lv_sub hl [1, 2, 3, 4, 5, 0] rfl)
set_option maxRecDepth 100000 in
set_option maxHeartbeats 4000000 in
theorem H_X3_reachedNext_6 {r0 : Int64} (a0 : Nat) (l1 : Int64) (l3 : Int32) (σ : hSt) (G : Gx p m c cX3_reachedNext 8 s args RX3 D ay NC ad (aN NC ad)) (hm : meth.sig.returnType = (some .long) ∧ meth.locks = false) (ok_a0 : okr kC NC 3 a0 = true)  : ∀ (k : Nat) (v : Int64 × Int32), lp (S_X3_reachedNext_6 a0 l1 l3 σ) k v = some r0 → ∀ (H : Heap) (locs : List Loc) (ls : Array Slot), Wd D ay kC NC ad (aN NC ad) s σ H locs → lv_has ls 8 [(0, .ref (ad a0)), (1, .long l1), (3, .int l3), (4, .long v.1), (6, .int v.2)] → W p l e (rmK 1 22) s m args below meth c H locs 0 0 (MQ below (cJ D ay kC NC ad r0 σ) args s 0 0 (aN NC ad)) (F0 m 6 ls []) := by
  intro k
  induction k with
  | zero => intro v hf; cases hf
  | succ k ih =>
    intro v hf H locs ls w hl
    obtain ⟨o1, h1, h2, h3⟩ := lp_some hf
    exact B_X3_reachedNext_6b a0 l1 l3 v.1 v.2 σ G hm ok_a0 h1  (fun v' e => ih v' (h2 v' e)) (fun x e => h3 x e) w hl
set_option maxRecDepth 100000 in
set_option maxHeartbeats 4000000 in
theorem B_X3_reachedNext_6 {H : Heap} {locs : List Loc} {ls : Array Slot} {r0 : Int64} (a0 : Nat) (l1 : Int64) (l3 : Int32) (l4 : Int64) (l6 : Int32) (σ : hSt) (G : Gx p m c cX3_reachedNext 8 s args RX3 D ay NC ad (aN NC ad)) (hm : meth.sig.returnType = (some .long) ∧ meth.locks = false) (ok_a0 : okr kC NC 3 a0 = true) (hf : F_X3_reachedNext_6 a0 l1 l3 l4 l6 σ = some r0)  (w : Wd D ay kC NC ad (aN NC ad) s σ H locs) (hl : lv_has ls 8 [(0, .ref (ad a0)), (1, .long l1), (3, .int l3), (4, .long l4), (6, .int l6)]) : W p l e (rmK 1 22) s m args below meth c H locs 0 0 (MQ below (cJ D ay kC NC ad r0 σ) args s 0 0 (aN NC ad)) (F0 m 6 ls []) := by
  unfold F_X3_reachedNext_6 at hf
  exact H_X3_reachedNext_6 a0 l1 l3 σ G hm ok_a0  fuel (l4, l6) hf _ _ _ w hl
set_option maxRecDepth 100000 in
set_option maxHeartbeats 4000000 in
theorem B_X3_reachedNext_0 {H : Heap} {locs : List Loc} {ls : Array Slot} {r0 : Int64} (a0 : Nat) (l1 : Int64) (l3 : Int32) (σ : hSt) (G : Gx p m c cX3_reachedNext 8 s args RX3 D ay NC ad (aN NC ad)) (hm : meth.sig.returnType = (some .long) ∧ meth.locks = false) (ok_a0 : okr kC NC 3 a0 = true) (hf : F_X3_reachedNext a0 l1 l3 σ = some r0)  (w : Wd D ay kC NC ad (aN NC ad) s σ H locs) (hl : lv_has ls 8 [(0, .ref (ad a0)), (1, .long l1), (3, .int l3)]) : W p l e (rmK 1 22) s m args below meth c H locs 0 0 (MQ below (cJ D ay kC NC ad r0 σ) args s 0 0 (aN NC ad)) (F0 m 0 ls []) := by
  have k_a0 := okr_in ok_a0
  unfold F_X3_reachedNext at hf
  refine lv_lload_n G.hx G.hb (dcs_get dec_X3_reachedNext_0 0 rfl) rfl (lv_at hl 1 rfl) ?_
  refine lv_lstore (lv' := [(4, .long l1), (0, .ref (ad a0)), (1, .long l1), (3, .int l3)]) G.hx G.hb (dcs_get dec_X3_reachedNext_0 1 rfl) hl (by decide) rfl (fun ls hl => ?_)
  refine lv_iconst (v := (0 : Int32)) G.hx G.hb (dcs_get dec_X3_reachedNext_0 2 rfl) (by decide) ?_
  refine lv_istore (lv' := [(6, .int (0 : Int32)), (4, .long l1), (0, .ref (ad a0)), (1, .long l1), (3, .int l3)]) G.hx G.hb (dcs_get dec_X3_reachedNext_0 3 rfl) hl (by decide) rfl (fun ls hl => ?_)
  exact B_X3_reachedNext_6 a0 l1 l3 l1 (0 : Int32) σ G hm ok_a0 hf  w (lv_sub hl [2, 3, 4, 1, 0] rfl)
end
set_option maxRecDepth 100000 in
set_option maxHeartbeats 4000000 in
theorem C_X3_reachedNext {l : Launch} {D : va_G} {ay : Nat → ClassId} {ad : Nat → Nat} (hi : hInj NC ad) (a0 : Nat) (l1 : Int64) (l3 : Int32) (σ : hSt) {r0 : Int64} (hf : F_X3_reachedNext a0 l1 l3 σ = some r0) (ok_a0 : okr kC NC 3 a0 = true) : hM l D ay kC NC ad yX3_reachedNext cX3_reachedNext 8 ((some .long)) (rmK 1 22) [.ref (ad a0), .long l1, .int l3] σ (cJ D ay kC NC ad r0 σ) := by
  refine hM_in (by decide) hi (Nat.le_of_ble_eq_true rfl) ?_
  intro p e s m below meth c G hm w ls hl
  exact B_X3_reachedNext_0 a0 l1 l3 σ G hm ok_a0 hf w (lv_sub hl [0, 1, 2] rfl)

/-! HillDrums.Plans.fewestDays(LHillDrums$Text;LHillDrums$World;II)I -/
def DL_X3_fewestDays_0 : List (Nat × Instr × Nat) := [(0, .iconst 1, 1), (1, .aload_n 1, 1), (2, .getfield 35, 3), (5, .ishl, 1), (6, .bipush 64, 2), (8, .invokestatic 38, 3), (11, .istore 5, 2), (13, .lconst 1, 1), (14, .aload_n 2, 1), (15, .getfield 48, 3), (18, .iload_n 3, 1), (19, .invokestatic 53, 3), (22, .lshl, 1), (23, .lstore 6, 2), (25, .iconst 0, 1), (26, .istore 8, 2), (28, .iload 8, 2), (30, .bipush 60, 2), (32, .if_icmp .ge 48, 3), (35, .lload 6, 2), (37, .iload 4, 2), (39, .iload 5, 2), (41, .invokestatic 56, 3), (44, .ifCond .eq 6, 3), (47, .iload 8, 2), (49, .ireturn, 1), (50, .aload_n 0, 1), (51, .aload_n 1, 1), (52, .aload_n 2, 1), (53, .getfield 60, 3), (56, .iload 8, 2), (58, .iadd, 1), (59, .iconst 1, 1), (60, .iadd, 1), (61, .invokevirtual 63, 3), (64, .aload_n 0, 1), (65, .lload 6, 2), (67, .iload 5, 2), (69, .invokevirtual 67, 3), (72, .lstore 6, 2)]
set_option maxRecDepth 100000 in
theorem dec_X3_fewestDays_0 : dcs cX3_fewestDays DL_X3_fewestDays_0 = true := by decide +kernel
def DL_X3_fewestDays_1 : List (Nat × Instr × Nat) := [(74, .iinc 8 1, 3), (77, .goto (-49), 3), (80, .lload 6, 2), (82, .iload 4, 2), (84, .iload 5, 2), (86, .invokestatic 56, 3), (89, .ifCond .eq 8, 3), (92, .bipush 60, 2), (94, .goto 5, 3), (97, .bipush (-2), 2), (99, .ireturn, 1)]
set_option maxRecDepth 100000 in
theorem dec_X3_fewestDays_1 : dcs cX3_fewestDays DL_X3_fewestDays_1 = true := by decide +kernel
theorem lb_X3_fewestDays : lkB yX3_fewestDays cX3_fewestDays 9 ((some .int)) 4 := ⟨q_870, q_11, ⟨by decide, by decide⟩, by decide +kernel⟩
theorem lv_X3_fewestDays : lkV yX3_fewestDays := ⟨q_869, qs_53⟩
def F_X3_fewestDays_99 (s0 : Int32) (σ : hSt) : Option (Int32 × hSt) :=
some ((s0, σ))
def F_X3_fewestDays_28b (a0 : Nat) (a1 : Nat) (a2 : Nat) (l4 : Int32) (l5 : Int32) (l6 : Int64) (l8 : Int32) (σ : hSt) : Option ((Int64 × Int32 × hSt) ⊕ (Int32 × hSt)) :=
if (60 : Int32) ≤ l8 then (
(F_X3_isReached l6 l4 l5 σ).bind fun v2 =>
if v2 = 0 then (
(F_X3_fewestDays_99 (-2 : Int32) σ).map (fun x => .inr (x))) else (
(F_X3_fewestDays_99 (60 : Int32) σ).map (fun x => .inr (x)))) else (
(F_X3_isReached l6 l4 l5 σ).bind fun v4 =>
if v4 = 0 then (
(F_X3_setDay a0 a1 (((σ.1 a2 0) + l8) + (1 : Int32)) σ).bind fun σ6 =>
(F_X3_reachedNext a0 l6 l5 σ6).bind fun v8 =>
cL (l8 + (1 : Int32)) fun v9 =>
some (.inl (v8, v9, σ6))) else (
some (.inr ((l8, σ)))))
def S_X3_fewestDays_28 (a0 : Nat) (a1 : Nat) (a2 : Nat) (l4 : Int32) (l5 : Int32) (v : Int64 × Int32 × hSt) : Option ((Int64 × Int32 × hSt) ⊕ (Int32 × hSt)) := F_X3_fewestDays_28b a0 a1 a2 l4 l5 v.1 v.2.1 v.2.2
def F_X3_fewestDays_28 (a0 : Nat) (a1 : Nat) (a2 : Nat) (l4 : Int32) (l5 : Int32) (l6 : Int64) (l8 : Int32) (σ : hSt) : Option (Int32 × hSt) := lp (S_X3_fewestDays_28 a0 a1 a2 l4 l5) fuel (l6, l8, σ)
def F_X3_fewestDays (a0 : Nat) (a1 : Nat) (a2 : Nat) (l3 : Int32) (l4 : Int32) (σ : hSt) : Option (Int32 × hSt) :=
cL (if (64 : Int32) < ((1 : Int32) <<< ((σ.1 a1 0) &&& 31)) then (64 : Int32) else ((1 : Int32) <<< ((σ.1 a1 0) &&& 31))) fun v10 =>
(F_X11_rowOf (σ.1 a2 1) l3 σ).bind fun v12 =>
cL ((1 : Int64) <<< (v12.toInt64 &&& 63)) fun v13 =>
F_X3_fewestDays_28 a0 a1 a2 l4 v10 v13 (0 : Int32) σ
section
variable {p : Program} {l : Launch} {e : Env} {s : State} {m : MethodId} {args : Array Value} {below : List Frame} {meth : Method} {c : Code} {D : va_G} {ay : Nat → ClassId} {ad : Nat → Nat}
set_option maxRecDepth 100000 in
set_option maxHeartbeats 4000000 in
theorem B_X3_fewestDays_99 {H : Heap} {locs : List Loc} {ls : Array Slot} {r0 : Int32} {σ0 : hSt} (s0 : Int32) (σ : hSt) (G : Gx p m c cX3_fewestDays 9 s args RX3 D ay NC ad (aN NC ad)) (hm : meth.sig.returnType = (some .int) ∧ meth.locks = false)  (hf : F_X3_fewestDays_99 s0 σ = some (r0, σ0))  (w : Wd D ay kC NC ad (aN NC ad) s σ H locs) (hl : lv_has ls 9 []) : W p l e (rmK 5 124) s m args below meth c H locs 0 0 (MQ below (cI D ay kC NC ad r0 σ0) args s 0 0 (aN NC ad)) (F0 m 99 ls [.int s0]) := by
  unfold F_X3_fewestDays_99 at hf
  have e9 := Option.some.inj hf
  exact r_iret G w hm (congrArg Prod.fst e9) (congrArg Prod.snd e9) (dcs_get dec_X3_fewestDays_1 10 rfl)
set_option maxRecDepth 100000 in
set_option maxHeartbeats 4000000 in
theorem B_X3_fewestDays_28b {H : Heap} {locs : List Loc} {ls : Array Slot} {r0 : Int32} {σ0 : hSt} {o : (Int64 × Int32 × hSt) ⊕ (Int32 × hSt)} (a0 : Nat) (a1 : Nat) (a2 : Nat) (l4 : Int32) (l5 : Int32) (l6 : Int64) (l8 : Int32) (σ : hSt) (G : Gx p m c cX3_fewestDays 9 s args RX3 D ay NC ad (aN NC ad)) (hm : meth.sig.returnType = (some .int) ∧ meth.locks = false) (ok_a0 : okr kC NC 3 a0 = true) (ok_a1 : okr kC NC 7 a1 = true) (ok_a2 : okr kC NC 10 a2 = true) (hf : F_X3_fewestDays_28b a0 a1 a2 l4 l5 l6 l8 σ = some o) (hb0 : ∀ (v : Int64 × Int32 × hSt), o = .inl v → ∀ (H : Heap) (locs : List Loc) (ls : Array Slot), Wd D ay kC NC ad (aN NC ad) s v.2.2 H locs → lv_has ls 9 [(0, .ref (ad a0)), (1, .ref (ad a1)), (2, .ref (ad a2)), (4, .int l4), (5, .int l5), (6, .long v.1), (8, .int v.2.1)] → W p l e (rmK 5 124) s m args below meth c H locs 0 0 (MQ below (cI D ay kC NC ad r0 σ0) args s 0 0 (aN NC ad)) (F0 m 28 ls [])) (hr : ∀ x, o = .inr (x) → x = (r0, σ0)) (w : Wd D ay kC NC ad (aN NC ad) s σ H locs) (hl : lv_has ls 9 [(0, .ref (ad a0)), (1, .ref (ad a1)), (2, .ref (ad a2)), (4, .int l4), (5, .int l5), (6, .long l6), (8, .int l8)]) : W p l e (rmK 5 124) s m args below meth c H locs 0 0 (MQ below (cI D ay kC NC ad r0 σ0) args s 0 0 (aN NC ad)) (F0 m 28 ls []) := by
  have k_a0 := okr_in ok_a0
  have k_a1 := okr_in ok_a1
  have k_a2 := okr_in ok_a2
  unfold F_X3_fewestDays_28b at hf
  refine lv_iload G.hx G.hb (dcs_get dec_X3_fewestDays_0 16 rfl) (lv_at hl 6 rfl) ?_
  refine lv_bipush (v := (60 : Int32)) G.hx G.hb (dcs_get dec_X3_fewestDays_0 17 rfl) (by decide) ?_
  refine lv_icmp_ge (tgt := 80) G.hx G.hb (dcs_get dec_X3_fewestDays_0 18 rfl) (by decide) (fun hc => ?_) (fun hc => ?_)
  · rw [if_pos hc] at hf
    refine lv_lload G.hx G.hb (dcs_get dec_X3_fewestDays_1 2 rfl) (lv_at hl 5 rfl) ?_
    refine lv_iload G.hx G.hb (dcs_get dec_X3_fewestDays_1 3 rfl) (lv_at hl 3 rfl) ?_
    refine lv_iload G.hx G.hb (dcs_get dec_X3_fewestDays_1 4 rfl) (lv_at hl 4 rfl) ?_
    obtain ⟨v2, h1, hf⟩ := cB_some hf
    refine a_i (k_S (As := [.long l6, .int l4, .int l5]) (rest := []) lb_X3_isReached q_874 q_873 (C_X3_isReached G.2.2.1 l6 l4 l5 σ h1 ) ⟨(Nat.le_of_ble_eq_true rfl), (Nat.le_of_ble_eq_true rfl)⟩ G w rfl rfl hl.1 (Nat.le_of_ble_eq_true rfl) (dcs_get dec_X3_fewestDays_1 5 rfl) ⟨Nat.le_refl _, Nat.le_refl _⟩) G w (fun H locs w => ?_)
    refine lv_if_eq (tgt := 97) G.hx G.hb (dcs_get dec_X3_fewestDays_1 6 rfl) (by decide) (fun hc => ?_) (fun hc => ?_)
    · rw [if_pos hc] at hf
      refine lv_bipush (v := (-2 : Int32)) G.hx G.hb (dcs_get dec_X3_fewestDays_1 9 rfl) (by decide) ?_
      obtain ⟨x9, h9, e9⟩ := map_some_inv hf
      subst e9
      have e8 := hr _ rfl
      rw [e8] at h9
      exact B_X3_fewestDays_99 (-2 : Int32) σ G hm  h9 w (lv_sub hl [] rfl)
    · rw [if_neg hc] at hf
      refine lv_bipush (v := (60 : Int32)) G.hx G.hb (dcs_get dec_X3_fewestDays_1 7 rfl) (by decide) ?_
      refine lv_goto (tgt := 99) G.hx G.hb (dcs_get dec_X3_fewestDays_1 8 rfl) (by decide) ?_
      obtain ⟨x9, h9, e9⟩ := map_some_inv hf
      subst e9
      have e8 := hr _ rfl
      rw [e8] at h9
      exact B_X3_fewestDays_99 (60 : Int32) σ G hm  h9 w (lv_sub hl [] rfl)
  · rw [if_neg hc] at hf
    refine lv_lload G.hx G.hb (dcs_get dec_X3_fewestDays_0 19 rfl) (lv_at hl 5 rfl) ?_
    refine lv_iload G.hx G.hb (dcs_get dec_X3_fewestDays_0 20 rfl) (lv_at hl 3 rfl) ?_
    refine lv_iload G.hx G.hb (dcs_get dec_X3_fewestDays_0 21 rfl) (lv_at hl 4 rfl) ?_
    obtain ⟨v4, h3, hf⟩ := cB_some hf
    refine a_i (k_S (As := [.long l6, .int l4, .int l5]) (rest := []) lb_X3_isReached q_874 q_873 (C_X3_isReached G.2.2.1 l6 l4 l5 σ h3 ) ⟨(Nat.le_of_ble_eq_true rfl), (Nat.le_of_ble_eq_true rfl)⟩ G w rfl rfl hl.1 (Nat.le_of_ble_eq_true rfl) (dcs_get dec_X3_fewestDays_0 22 rfl) ⟨Nat.le_refl _, Nat.le_refl _⟩) G w (fun H locs w => ?_)
    refine lv_if_eq (tgt := 50) G.hx G.hb (dcs_get dec_X3_fewestDays_0 23 rfl) (by decide) (fun hc => ?_) (fun hc => ?_)
    · rw [if_pos hc] at hf
      refine lv_aload_n G.hx G.hb (dcs_get dec_X3_fewestDays_0 26 rfl) rfl (lv_at hl 0 rfl) ?_
      refine lv_aload_n G.hx G.hb (dcs_get dec_X3_fewestDays_0 27 rfl) rfl (lv_at hl 1 rfl) ?_
      refine lv_aload_n G.hx G.hb (dcs_get dec_X3_fewestDays_0 28 rfl) rfl (lv_at hl 2 rfl) ?_
      refine r_getiN (k := 0) cls10 fi_10_0.1 fi_10_0.2 nf_235 G w k_a2.1 k_a2.2 (dcs_get dec_X3_fewestDays_0 29 rfl) ?_
      refine lv_iload G.hx G.hb (dcs_get dec_X3_fewestDays_0 30 rfl) (lv_at hl 6 rfl) ?_
      refine lv_iadd G.hx G.hb (dcs_get dec_X3_fewestDays_0 31 rfl) ?_
      refine lv_iconst (v := (1 : Int32)) G.hx G.hb (dcs_get dec_X3_fewestDays_0 32 rfl) (by decide) ?_
      refine lv_iadd G.hx G.hb (dcs_get dec_X3_fewestDays_0 33 rfl) ?_
      obtain ⟨σ6, h5, hf⟩ := cB_some hf
      refine a_v (k_V (As := [.ref (ad a1), .int (((σ.1 a2 0) + l8) + (1 : Int32))]) (rest := []) cls3 lb_X3_setDay lv_X3_setDay q_876 (C_X3_setDay G.2.2.1 a0 a1 (((σ.1 a2 0) + l8) + (1 : Int32)) σ h5 ok_a0 ok_a1) ⟨(Nat.le_of_ble_eq_true rfl), (Nat.le_of_ble_eq_true rfl)⟩ G w k_a0.1 k_a0.2 rfl rfl hl.1 (Nat.le_of_ble_eq_true rfl) (dcs_get dec_X3_fewestDays_0 34 rfl) ⟨Nat.le_refl _, Nat.le_refl _⟩) G w (fun H locs w => ?_)
      refine lv_aload_n G.hx G.hb (dcs_get dec_X3_fewestDays_0 35 rfl) rfl (lv_at hl 0 rfl) ?_
      refine lv_lload G.hx G.hb (dcs_get dec_X3_fewestDays_0 36 rfl) (lv_at hl 5 rfl) ?_
      refine lv_iload G.hx G.hb (dcs_get dec_X3_fewestDays_0 37 rfl) (lv_at hl 4 rfl) ?_
      obtain ⟨v8, h7, hf⟩ := cB_some hf
      refine a_l (k_V (As := [.long l6, .int l5]) (rest := []) cls3 lb_X3_reachedNext lv_X3_reachedNext q_882 (C_X3_reachedNext G.2.2.1 a0 l6 l5 σ6 h7 ok_a0) ⟨(Nat.le_of_ble_eq_true rfl), (Nat.le_of_ble_eq_true rfl)⟩ G w k_a0.1 k_a0.2 rfl rfl hl.1 (Nat.le_of_ble_eq_true rfl) (dcs_get dec_X3_fewestDays_0 38 rfl) ⟨Nat.le_refl _, Nat.le_refl _⟩) G w (fun H locs w => ?_)
      refine lv_lstore (lv' := [(6, .long v8), (0, .ref (ad a0)), (1, .ref (ad a1)), (2, .ref (ad a2)), (4, .int l4), (5, .int l5), (8, .int l8)]) G.hx G.hb (dcs_get dec_X3_fewestDays_0 39 rfl) hl (by decide) rfl (fun ls hl => ?_)
      obtain ⟨v9, e_v9, hf⟩ := cL_some hf
      refine lv_iinc (v := v9) (lv' := [(8, .int v9), (6, .long v8), (0, .ref (ad a0)), (1, .ref (ad a1)), (2, .ref (ad a2)), (4, .int l4), (5, .int l5)]) G.hx G.hb (dcs_get dec_X3_fewestDays_1 0 rfl) hl (k := 6) rfl (by rw [e_v9]; rfl) (by decide) rfl (fun ls hl => ?_)
      refine lv_goto (tgt := 28) G.hx G.hb (dcs_get dec_X3_fewestDays_1 1 rfl) (by decide) ?_
      exact hb0 _ (Option.some.inj hf).symm _ _ _ w (lv_sub hl [2, 3, 4, 5, 6, 1, 0] rfl)
    · rw [if_neg hc] at hf
      refine lv_iload G.hx G.hb (dcs_get dec_X3_fewestDays_0 24 rfl) (lv_at hl 6 rfl) ?_
      have e9 := hr _ (Option.some.inj hf).symm
      exact r_iret G w hm (congrArg Prod.fst e9) (congrArg Prod.snd e9) (dcs_get dec_X3_fewestDays_0 25 rfl)
set_option maxRecDepth 100000 in
set_option maxHeartbeats 4000000 in
theorem H_X3_fewestDays_28 {r0 : Int32} {σ0 : hSt} (a0 : Nat) (a1 : Nat) (a2 : Nat) (l4 : Int32) (l5 : Int32) (G : Gx p m c cX3_fewestDays 9 s args RX3 D ay NC ad (aN NC ad)) (hm : meth.sig.returnType = (some .int) ∧ meth.locks = false) (ok_a0 : okr kC NC 3 a0 = true) (ok_a1 : okr kC NC 7 a1 = true) (ok_a2 : okr kC NC 10 a2 = true)  : ∀ (k : Nat) (v : Int64 × Int32 × hSt), lp (S_X3_fewestDays_28 a0 a1 a2 l4 l5) k v = some (r0, σ0) → ∀ (H : Heap) (locs : List Loc) (ls : Array Slot), Wd D ay kC NC ad (aN NC ad) s v.2.2 H locs → lv_has ls 9 [(0, .ref (ad a0)), (1, .ref (ad a1)), (2, .ref (ad a2)), (4, .int l4), (5, .int l5), (6, .long v.1), (8, .int v.2.1)] → W p l e (rmK 5 124) s m args below meth c H locs 0 0 (MQ below (cI D ay kC NC ad r0 σ0) args s 0 0 (aN NC ad)) (F0 m 28 ls []) := by
  intro k
  induction k with
  | zero => intro v hf; cases hf
  | succ k ih =>
    intro v hf H locs ls w hl
    obtain ⟨o1, h1, h2, h3⟩ := lp_some hf
    exact B_X3_fewestDays_28b a0 a1 a2 l4 l5 v.1 v.2.1 v.2.2 G hm ok_a0 ok_a1 ok_a2 h1  (fun v' e => ih v' (h2 v' e)) (fun x e => h3 x e) w hl
set_option maxRecDepth 100000 in
set_option maxHeartbeats 4000000 in
theorem B_X3_fewestDays_28 {H : Heap} {locs : List Loc} {ls : Array Slot} {r0 : Int32} {σ0 : hSt} (a0 : Nat) (a1 : Nat) (a2 : Nat) (l4 : Int32) (l5 : Int32) (l6 : Int64) (l8 : Int32) (σ : hSt) (G : Gx p m c cX3_fewestDays 9 s args RX3 D ay NC ad (aN NC ad)) (hm : meth.sig.returnType = (some .int) ∧ meth.locks = false) (ok_a0 : okr kC NC 3 a0 = true) (ok_a1 : okr kC NC 7 a1 = true) (ok_a2 : okr kC NC 10 a2 = true) (hf : F_X3_fewestDays_28 a0 a1 a2 l4 l5 l6 l8 σ = some (r0, σ0))  (w : Wd D ay kC NC ad (aN NC ad) s σ H locs) (hl : lv_has ls 9 [(0, .ref (ad a0)), (1, .ref (ad a1)), (2, .ref (ad a2)), (4, .int l4), (5, .int l5), (6, .long l6), (8, .int l8)]) : W p l e (rmK 5 124) s m args below meth c H locs 0 0 (MQ below (cI D ay kC NC ad r0 σ0) args s 0 0 (aN NC ad)) (F0 m 28 ls []) := by
  unfold F_X3_fewestDays_28 at hf
  exact H_X3_fewestDays_28 a0 a1 a2 l4 l5  G hm ok_a0 ok_a1 ok_a2  fuel (l6, l8, σ) hf _ _ _ w hl
set_option maxRecDepth 100000 in
set_option maxHeartbeats 4000000 in
theorem B_X3_fewestDays_0 {H : Heap} {locs : List Loc} {ls : Array Slot} {r0 : Int32} {σ0 : hSt} (a0 : Nat) (a1 : Nat) (a2 : Nat) (l3 : Int32) (l4 : Int32) (σ : hSt) (G : Gx p m c cX3_fewestDays 9 s args RX3 D ay NC ad (aN NC ad)) (hm : meth.sig.returnType = (some .int) ∧ meth.locks = false) (ok_a0 : okr kC NC 3 a0 = true) (ok_a1 : okr kC NC 7 a1 = true) (ok_a2 : okr kC NC 10 a2 = true) (hf : F_X3_fewestDays a0 a1 a2 l3 l4 σ = some (r0, σ0))  (w : Wd D ay kC NC ad (aN NC ad) s σ H locs) (hl : lv_has ls 9 [(0, .ref (ad a0)), (1, .ref (ad a1)), (2, .ref (ad a2)), (3, .int l3), (4, .int l4)]) : W p l e (rmK 5 124) s m args below meth c H locs 0 0 (MQ below (cI D ay kC NC ad r0 σ0) args s 0 0 (aN NC ad)) (F0 m 0 ls []) := by
  have k_a0 := okr_in ok_a0
  have k_a1 := okr_in ok_a1
  have k_a2 := okr_in ok_a2
  unfold F_X3_fewestDays at hf
  refine lv_iconst (v := (1 : Int32)) G.hx G.hb (dcs_get dec_X3_fewestDays_0 0 rfl) (by decide) ?_
  refine lv_aload_n G.hx G.hb (dcs_get dec_X3_fewestDays_0 1 rfl) rfl (lv_at hl 1 rfl) ?_
  refine r_getiN (k := 0) cls7 fi_7_0.1 fi_7_0.2 nf_92 G w k_a1.1 k_a1.2 (dcs_get dec_X3_fewestDays_0 2 rfl) ?_
  refine lv_ishl G.hx G.hb (dcs_get dec_X3_fewestDays_0 3 rfl) ?_
  refine lv_bipush (v := (64 : Int32)) G.hx G.hb (dcs_get dec_X3_fewestDays_0 4 rfl) (by decide) ?_
  refine r_min q_871 q_557 q_19 q_558 ⟨(Nat.le_of_ble_eq_true rfl), (Nat.le_of_ble_eq_true rfl)⟩ ⟨Nat.le_refl _, Nat.le_refl _⟩ G hl.1 (dcs_get dec_X3_fewestDays_0 5 rfl) ?_
  obtain ⟨v10, e_v10, hf⟩ := cL_some hf
  refine r_topi e_v10 ?_
  refine lv_istore (lv' := [(5, .int v10), (0, .ref (ad a0)), (1, .ref (ad a1)), (2, .ref (ad a2)), (3, .int l3), (4, .int l4)]) G.hx G.hb (dcs_get dec_X3_fewestDays_0 6 rfl) hl (by decide) rfl (fun ls hl => ?_)
  refine lv_lconst (v := (1 : Int64)) G.hx G.hb (dcs_get dec_X3_fewestDays_0 7 rfl) (by decide) ?_
  refine lv_aload_n G.hx G.hb (dcs_get dec_X3_fewestDays_0 8 rfl) rfl (lv_at hl 3 rfl) ?_
  refine r_getiN (k := 1) cls10 fi_10_1.1 fi_10_1.2 nf_238 G w k_a2.1 k_a2.2 (dcs_get dec_X3_fewestDays_0 9 rfl) ?_
  refine lv_iload_n G.hx G.hb (dcs_get dec_X3_fewestDays_0 10 rfl) rfl (lv_at hl 4 rfl) ?_
  obtain ⟨v12, h11, hf⟩ := cB_some hf
  refine a_i (k_SN (As := [.int (σ.1 a2 1), .int l3]) (rest := [.long (1 : Int64)]) lb_X11_rowOf q_829 nm_872 (C_X11_rowOf G.2.2.1 (σ.1 a2 1) l3 σ h11 ) ⟨(Nat.le_of_ble_eq_true rfl), (Nat.le_of_ble_eq_true rfl)⟩ G w rfl rfl hl.1 (Nat.le_of_ble_eq_true rfl) (dcs_get dec_X3_fewestDays_0 11 rfl) ⟨Nat.le_refl _, Nat.le_refl _⟩) G w (fun H locs w => ?_)
  refine lv_lshl G.hx G.hb (dcs_get dec_X3_fewestDays_0 12 rfl) rfl ?_
  obtain ⟨v13, e_v13, hf⟩ := cL_some hf
  refine r_topl e_v13 ?_
  refine lv_lstore (lv' := [(6, .long v13), (5, .int v10), (0, .ref (ad a0)), (1, .ref (ad a1)), (2, .ref (ad a2)), (3, .int l3), (4, .int l4)]) G.hx G.hb (dcs_get dec_X3_fewestDays_0 13 rfl) hl (by decide) rfl (fun ls hl => ?_)
  refine lv_iconst (v := (0 : Int32)) G.hx G.hb (dcs_get dec_X3_fewestDays_0 14 rfl) (by decide) ?_
  refine lv_istore (lv' := [(8, .int (0 : Int32)), (6, .long v13), (5, .int v10), (0, .ref (ad a0)), (1, .ref (ad a1)), (2, .ref (ad a2)), (3, .int l3), (4, .int l4)]) G.hx G.hb (dcs_get dec_X3_fewestDays_0 15 rfl) hl (by decide) rfl (fun ls hl => ?_)
  exact B_X3_fewestDays_28 a0 a1 a2 l4 v10 v13 (0 : Int32) σ G hm ok_a0 ok_a1 ok_a2 hf  w (lv_sub hl [3, 4, 5, 7, 2, 1, 0] rfl)
end
set_option maxRecDepth 100000 in
set_option maxHeartbeats 4000000 in
theorem C_X3_fewestDays {l : Launch} {D : va_G} {ay : Nat → ClassId} {ad : Nat → Nat} (hi : hInj NC ad) (a0 : Nat) (a1 : Nat) (a2 : Nat) (l3 : Int32) (l4 : Int32) (σ : hSt) {r0 : Int32} {σ0 : hSt} (hf : F_X3_fewestDays a0 a1 a2 l3 l4 σ = some (r0, σ0)) (ok_a0 : okr kC NC 3 a0 = true) (ok_a1 : okr kC NC 7 a1 = true) (ok_a2 : okr kC NC 10 a2 = true) : hM l D ay kC NC ad yX3_fewestDays cX3_fewestDays 9 ((some .int)) (rmK 5 124) [.ref (ad a0), .ref (ad a1), .ref (ad a2), .int l3, .int l4] σ (cI D ay kC NC ad r0 σ0) := by
  refine hM_in (by decide) hi (Nat.le_of_ble_eq_true rfl) ?_
  intro p e s m below meth c G hm w ls hl
  exact B_X3_fewestDays_0 a0 a1 a2 l3 l4 σ G hm ok_a0 ok_a1 ok_a2 hf w (lv_sub hl [0, 1, 2, 3, 4] rfl)

/-! HillDrums.Plans.spreadFewest(I)V -/
def DL_X3_spreadFewest_0 : List (Nat × Instr × Nat) := [(0, .aload_n 0, 1), (1, .getfield 19, 3), (4, .iconst 0, 1), (5, .aload_n 0, 1), (6, .getfield 22, 3), (9, .iconst 0, 1), (10, .bipush 64, 2), (12, .invokestatic 90, 3), (15, .iconst 0, 1), (16, .istore_n 2, 1), (17, .iload_n 2, 1), (18, .iload_n 1, 1), (19, .if_icmp .gt 86, 3), (22, .iload_n 2, 1), (23, .bipush 64, 2), (25, .if_icmp .ge 80, 3), (28, .iconst 1, 1), (29, .istore_n 3, 1), (30, .iload_n 3, 1), (31, .iload_n 2, 1), (32, .if_icmp .gt 67, 3), (35, .aload_n 0, 1), (36, .getfield 19, 3), (39, .iload_n 2, 1), (40, .iaload, 1), (41, .ldc 79, 2), (43, .if_icmp .ge 56, 3), (46, .aload_n 0, 1), (47, .iload_n 3, 1), (48, .iload_n 2, 1), (49, .invokevirtual 71, 3), (52, .ifCond .eq 41, 3), (55, .iload_n 2, 1), (56, .aload_n 0, 1), (57, .getfield 9, 3), (60, .iload_n 3, 1), (61, .iaload, 1), (62, .ior, 1), (63, .istore 4, 2), (65, .aload_n 0, 1)]
set_option maxRecDepth 100000 in
theorem dec_X3_spreadFewest_0 : dcs cX3_spreadFewest DL_X3_spreadFewest_0 = true := by decide +kernel
def DL_X3_spreadFewest_1 : List (Nat × Instr × Nat) := [(66, .getfield 22, 3), (69, .iload 4, 2), (71, .aload_n 0, 1), (72, .getfield 22, 3), (75, .iload 4, 2), (77, .iaload, 1), (78, .aload_n 0, 1), (79, .getfield 19, 3), (82, .iload_n 2, 1), (83, .iaload, 1), (84, .iload_n 3, 1), (85, .invokestatic 96, 3), (88, .iadd, 1), (89, .invokestatic 38, 3), (92, .iastore, 1), (93, .iinc 3 1, 3), (96, .goto (-66), 3), (99, .iinc 2 1, 3), (102, .goto (-85), 3), (105, .aload_n 0, 1), (106, .getfield 19, 3), (109, .astore_n 2, 1), (110, .aload_n 0, 1), (111, .aload_n 0, 1), (112, .getfield 22, 3), (115, .putfield 19, 3), (118, .aload_n 0, 1), (119, .aload_n 2, 1), (120, .putfield 22, 3), (123, .return_, 1)]
set_option maxRecDepth 100000 in
theorem dec_X3_spreadFewest_1 : dcs cX3_spreadFewest DL_X3_spreadFewest_1 = true := by decide +kernel
theorem lb_X3_spreadFewest : lkB yX3_spreadFewest cX3_spreadFewest 5 (none) 1 := ⟨q_908, q_11, ⟨by decide, by decide⟩, by decide +kernel⟩
theorem lv_X3_spreadFewest : lkV yX3_spreadFewest := ⟨q_907, qs_58⟩
def F_X3_spreadFewest_93 (a0 : Nat) (l1 : Int32) (l2 : Int32) (l3 : Int32) (σ : hSt) : Option ((Int32 × hSt) ⊕ ((Int32 × hSt) ⊕ (hSt))) :=
cL (l3 + (1 : Int32)) fun v1 =>
some (.inl (v1, σ))
def F_X3_spreadFewest_99 (a0 : Nat) (l1 : Int32) (l2 : Int32) (σ : hSt) : Option ((Int32 × hSt) ⊕ (hSt)) :=
cL (l2 + (1 : Int32)) fun v2 =>
some (.inl (v2, σ))
def F_X3_spreadFewest_30b (a0 : Nat) (l1 : Int32) (l2 : Int32) (l3 : Int32) (σ : hSt) : Option ((Int32 × hSt) ⊕ ((Int32 × hSt) ⊕ (hSt))) :=
if l2 < l3 then (
(F_X3_spreadFewest_99 a0 l1 l2 σ).map (fun x => .inr (x))) else (
cR (σ.2.2 a0 2) (okr kC NC 101) fun z3 =>
cG (inb l2 (kC z3).2) <|
if (1000000 : Int32) ≤ (σ.1 z3 l2.toNatClampNeg) then (
(F_X3_spreadFewest_99 a0 l1 l2 σ).map (fun x => .inr (x))) else (
(F_X3_canSay a0 l3 l2 σ).bind fun v6 =>
if v6 = 0 then (
F_X3_spreadFewest_93 a0 l1 l2 l3 σ) else (
cR (σ.2.2 a0 0) (okr kC NC 101) fun z7 =>
cG (inb l3 (kC z7).2) <|
cL (l2 ||| (σ.1 z7 l3.toNatClampNeg)) fun v9 =>
cR (σ.2.2 a0 3) (okr kC NC 101) fun z10 =>
cR (σ.2.2 a0 3) (okr kC NC 101) fun z11 =>
cG (inb v9 (kC z11).2) <|
cR (σ.2.2 a0 2) (okr kC NC 101) fun z13 =>
cG (inb l2 (kC z13).2) <|
(F_J6_bitCount_0f7a4 l3 σ).bind fun v16 =>
cG (inb v9 (kC z10).2) <|
cL (uI σ z10 v9.toNatClampNeg (if ((σ.1 z13 l2.toNatClampNeg) + v16) < (σ.1 z11 v9.toNatClampNeg) then ((σ.1 z13 l2.toNatClampNeg) + v16) else (σ.1 z11 v9.toNatClampNeg))) fun σ18 =>
F_X3_spreadFewest_93 a0 l1 l2 l3 σ18)))
def S_X3_spreadFewest_30 (a0 : Nat) (l1 : Int32) (l2 : Int32) (v : Int32 × hSt) : Option ((Int32 × hSt) ⊕ ((Int32 × hSt) ⊕ (hSt))) := F_X3_spreadFewest_30b a0 l1 l2 v.1 v.2
def F_X3_spreadFewest_30 (a0 : Nat) (l1 : Int32) (l2 : Int32) (l3 : Int32) (σ : hSt) : Option ((Int32 × hSt) ⊕ (hSt)) := lp (S_X3_spreadFewest_30 a0 l1 l2) fuel (l3, σ)
def F_X3_spreadFewest_105 (a0 : Nat) (σ : hSt) : Option (hSt) :=
cR (σ.2.2 a0 2) (okr kC NC 101) fun z19 =>
cR (σ.2.2 a0 3) (okr kC NC 101) fun z20 =>
cL (uP σ a0 2 (some z20)) fun σ21 =>
cL (uP σ21 a0 3 (some z19)) fun σ22 =>
some (σ22)
def F_X3_spreadFewest_17b (a0 : Nat) (l1 : Int32) (l2 : Int32) (σ : hSt) : Option ((Int32 × hSt) ⊕ (hSt)) :=
if l1 < l2 then (
(F_X3_spreadFewest_105 a0 σ).map (fun x => .inr (x))) else (
if (64 : Int32) ≤ l2 then (
(F_X3_spreadFewest_105 a0 σ).map (fun x => .inr (x))) else (
F_X3_spreadFewest_30 a0 l1 l2 (1 : Int32) σ))
def S_X3_spreadFewest_17 (a0 : Nat) (l1 : Int32) (v : Int32 × hSt) : Option ((Int32 × hSt) ⊕ (hSt)) := F_X3_spreadFewest_17b a0 l1 v.1 v.2
def F_X3_spreadFewest_17 (a0 : Nat) (l1 : Int32) (l2 : Int32) (σ : hSt) : Option (hSt) := lp (S_X3_spreadFewest_17 a0 l1) fuel (l2, σ)
def F_X3_spreadFewest (a0 : Nat) (l1 : Int32) (σ : hSt) : Option (hSt) :=
cR (σ.2.2 a0 2) (okr kC NC 101) fun z23 =>
cR (σ.2.2 a0 3) (okr kC NC 101) fun z24 =>
cG (cpOk (0 : Int32) (0 : Int32) (64 : Int32) (kC z23).2 (kC z24).2) <|
cL (uA σ z24 (va_cpy (σ.1 z23) (σ.1 z24) (0 : Int32).toNatClampNeg (0 : Int32).toNatClampNeg (64 : Int32).toNatClampNeg)) fun σ26 =>
F_X3_spreadFewest_17 a0 l1 (0 : Int32) σ26
section
variable {p : Program} {l : Launch} {e : Env} {s : State} {m : MethodId} {args : Array Value} {below : List Frame} {meth : Method} {c : Code} {D : va_G} {ay : Nat → ClassId} {ad : Nat → Nat}
set_option maxRecDepth 100000 in
set_option maxHeartbeats 4000000 in
theorem B_X3_spreadFewest_93 {H : Heap} {locs : List Loc} {ls : Array Slot} {σ0 : hSt} {o : (Int32 × hSt) ⊕ ((Int32 × hSt) ⊕ (hSt))} (a0 : Nat) (l1 : Int32) (l2 : Int32) (l3 : Int32) (σ : hSt) (G : Gx p m c cX3_spreadFewest 5 s args RX3 D ay NC ad (aN NC ad)) (hm : meth.sig.returnType = none ∧ meth.locks = false) (ok_a0 : okr kC NC 3 a0 = true) (hf : F_X3_spreadFewest_93 a0 l1 l2 l3 σ = some o) (hb0 : ∀ (v : Int32 × hSt), o = .inr (.inl v) → ∀ (H : Heap) (locs : List Loc) (ls : Array Slot), Wd D ay kC NC ad (aN NC ad) s v.2 H locs → lv_has ls 5 [(0, .ref (ad a0)), (1, .int l1), (2, .int v.1)] → W p l e (rmK 1 60) s m args below meth c H locs 0 0 (MQ below (cV D ay kC NC ad σ0) args s 0 0 (aN NC ad)) (F0 m 17 ls [])) (hb1 : ∀ (v : Int32 × hSt), o = .inl v → ∀ (H : Heap) (locs : List Loc) (ls : Array Slot), Wd D ay kC NC ad (aN NC ad) s v.2 H locs → lv_has ls 5 [(0, .ref (ad a0)), (1, .int l1), (2, .int l2), (3, .int v.1)] → W p l e (rmK 1 60) s m args below meth c H locs 0 0 (MQ below (cV D ay kC NC ad σ0) args s 0 0 (aN NC ad)) (F0 m 30 ls [])) (hr : ∀ x, o = .inr (.inr (x)) → x = σ0) (w : Wd D ay kC NC ad (aN NC ad) s σ H locs) (hl : lv_has ls 5 [(0, .ref (ad a0)), (1, .int l1), (2, .int l2), (3, .int l3)]) : W p l e (rmK 1 60) s m args below meth c H locs 0 0 (MQ below (cV D ay kC NC ad σ0) args s 0 0 (aN NC ad)) (F0 m 93 ls []) := by
  have k_a0 := okr_in ok_a0
  unfold F_X3_spreadFewest_93 at hf
  obtain ⟨v1, e_v1, hf⟩ := cL_some hf
  refine lv_iinc (v := v1) (lv' := [(3, .int v1), (0, .ref (ad a0)), (1, .int l1), (2, .int l2)]) G.hx G.hb (dcs_get dec_X3_spreadFewest_1 15 rfl) hl (k := 3) rfl (by rw [e_v1]; rfl) (by decide) rfl (fun ls hl => ?_)
  refine lv_goto (tgt := 30) G.hx G.hb (dcs_get dec_X3_spreadFewest_1 16 rfl) (by decide) ?_
  exact hb1 _ (Option.some.inj hf).symm _ _ _ w (lv_sub hl [1, 2, 3, 0] rfl)
set_option maxRecDepth 100000 in
set_option maxHeartbeats 4000000 in
theorem B_X3_spreadFewest_99 {H : Heap} {locs : List Loc} {ls : Array Slot} {σ0 : hSt} {o : (Int32 × hSt) ⊕ (hSt)} (a0 : Nat) (l1 : Int32) (l2 : Int32) (σ : hSt) (G : Gx p m c cX3_spreadFewest 5 s args RX3 D ay NC ad (aN NC ad)) (hm : meth.sig.returnType = none ∧ meth.locks = false) (ok_a0 : okr kC NC 3 a0 = true) (hf : F_X3_spreadFewest_99 a0 l1 l2 σ = some o) (hb0 : ∀ (v : Int32 × hSt), o = .inl v → ∀ (H : Heap) (locs : List Loc) (ls : Array Slot), Wd D ay kC NC ad (aN NC ad) s v.2 H locs → lv_has ls 5 [(0, .ref (ad a0)), (1, .int l1), (2, .int v.1)] → W p l e (rmK 1 60) s m args below meth c H locs 0 0 (MQ below (cV D ay kC NC ad σ0) args s 0 0 (aN NC ad)) (F0 m 17 ls [])) (hr : ∀ x, o = .inr (x) → x = σ0) (w : Wd D ay kC NC ad (aN NC ad) s σ H locs) (hl : lv_has ls 5 [(0, .ref (ad a0)), (1, .int l1), (2, .int l2)]) : W p l e (rmK 1 60) s m args below meth c H locs 0 0 (MQ below (cV D ay kC NC ad σ0) args s 0 0 (aN NC ad)) (F0 m 99 ls []) := by
  have k_a0 := okr_in ok_a0
  unfold F_X3_spreadFewest_99 at hf
  obtain ⟨v2, e_v2, hf⟩ := cL_some hf
  refine lv_iinc (v := v2) (lv' := [(2, .int v2), (0, .ref (ad a0)), (1, .int l1)]) G.hx G.hb (dcs_get dec_X3_spreadFewest_1 17 rfl) hl (k := 2) rfl (by rw [e_v2]; rfl) (by decide) rfl (fun ls hl => ?_)
  refine lv_goto (tgt := 17) G.hx G.hb (dcs_get dec_X3_spreadFewest_1 18 rfl) (by decide) ?_
  exact hb0 _ (Option.some.inj hf).symm _ _ _ w (lv_sub hl [1, 2, 0] rfl)
set_option maxRecDepth 100000 in
set_option maxHeartbeats 4000000 in
theorem B_X3_spreadFewest_30b {H : Heap} {locs : List Loc} {ls : Array Slot} {σ0 : hSt} {o : (Int32 × hSt) ⊕ ((Int32 × hSt) ⊕ (hSt))} (a0 : Nat) (l1 : Int32) (l2 : Int32) (l3 : Int32) (σ : hSt) (G : Gx p m c cX3_spreadFewest 5 s args RX3 D ay NC ad (aN NC ad)) (hm : meth.sig.returnType = none ∧ meth.locks = false) (ok_a0 : okr kC NC 3 a0 = true) (hf : F_X3_spreadFewest_30b a0 l1 l2 l3 σ = some o) (hb0 : ∀ (v : Int32 × hSt), o = .inr (.inl v) → ∀ (H : Heap) (locs : List Loc) (ls : Array Slot), Wd D ay kC NC ad (aN NC ad) s v.2 H locs → lv_has ls 5 [(0, .ref (ad a0)), (1, .int l1), (2, .int v.1)] → W p l e (rmK 1 60) s m args below meth c H locs 0 0 (MQ below (cV D ay kC NC ad σ0) args s 0 0 (aN NC ad)) (F0 m 17 ls [])) (hb1 : ∀ (v : Int32 × hSt), o = .inl v → ∀ (H : Heap) (locs : List Loc) (ls : Array Slot), Wd D ay kC NC ad (aN NC ad) s v.2 H locs → lv_has ls 5 [(0, .ref (ad a0)), (1, .int l1), (2, .int l2), (3, .int v.1)] → W p l e (rmK 1 60) s m args below meth c H locs 0 0 (MQ below (cV D ay kC NC ad σ0) args s 0 0 (aN NC ad)) (F0 m 30 ls [])) (hr : ∀ x, o = .inr (.inr (x)) → x = σ0) (w : Wd D ay kC NC ad (aN NC ad) s σ H locs) (hl : lv_has ls 5 [(0, .ref (ad a0)), (1, .int l1), (2, .int l2), (3, .int l3)]) : W p l e (rmK 1 60) s m args below meth c H locs 0 0 (MQ below (cV D ay kC NC ad σ0) args s 0 0 (aN NC ad)) (F0 m 30 ls []) := by
  have k_a0 := okr_in ok_a0
  unfold F_X3_spreadFewest_30b at hf
  refine lv_iload_n G.hx G.hb (dcs_get dec_X3_spreadFewest_0 18 rfl) rfl (lv_at hl 3 rfl) ?_
  refine lv_iload_n G.hx G.hb (dcs_get dec_X3_spreadFewest_0 19 rfl) rfl (lv_at hl 2 rfl) ?_
  refine lv_icmp_gt (tgt := 99) G.hx G.hb (dcs_get dec_X3_spreadFewest_0 20 rfl) (by decide) (fun hc => ?_) (fun hc => ?_)
  · rw [if_pos hc] at hf
    obtain ⟨x9, h9, e9⟩ := map_some_inv hf
    subst e9
    exact B_X3_spreadFewest_99 a0 l1 l2 σ G hm ok_a0 h9 (fun v e => hb0 v (by rw [e])) (fun x e => hr x (by rw [e])) w (lv_sub hl [0, 1, 2] rfl)
  · rw [if_neg hc] at hf
    refine lv_aload_n G.hx G.hb (dcs_get dec_X3_spreadFewest_0 21 rfl) rfl (lv_at hl 0 rfl) ?_
    obtain ⟨z3, e_z3, ok_z3, hf⟩ := cR_some hf
    have k_z3 := okr_in ok_z3
    refine r_getr (k := 2) cls3 fi_3_2.1 fi_3_2.2 q_330 G w k_a0.1 k_a0.2 e_z3 (dcs_get dec_X3_spreadFewest_0 22 rfl) ?_
    refine lv_iload_n G.hx G.hb (dcs_get dec_X3_spreadFewest_0 23 rfl) rfl (lv_at hl 2 rfl) ?_
    obtain ⟨h4, hf⟩ := cG_some hf
    refine r_iald G w k_z3.1 k_z3.2 h4 (dcs_get dec_X3_spreadFewest_0 24 rfl) ?_
    refine lv_ldc G.hx G.hb G.hown (G.hts _ q_903) (dcs_get dec_X3_spreadFewest_0 25 rfl) ?_
    refine lv_icmp_ge (tgt := 99) G.hx G.hb (dcs_get dec_X3_spreadFewest_0 26 rfl) (by decide) (fun hc => ?_) (fun hc => ?_)
    · rw [if_pos hc] at hf
      obtain ⟨x9, h9, e9⟩ := map_some_inv hf
      subst e9
      exact B_X3_spreadFewest_99 a0 l1 l2 σ G hm ok_a0 h9 (fun v e => hb0 v (by rw [e])) (fun x e => hr x (by rw [e])) w (lv_sub hl [0, 1, 2] rfl)
    · rw [if_neg hc] at hf
      refine lv_aload_n G.hx G.hb (dcs_get dec_X3_spreadFewest_0 27 rfl) rfl (lv_at hl 0 rfl) ?_
      refine lv_iload_n G.hx G.hb (dcs_get dec_X3_spreadFewest_0 28 rfl) rfl (lv_at hl 3 rfl) ?_
      refine lv_iload_n G.hx G.hb (dcs_get dec_X3_spreadFewest_0 29 rfl) rfl (lv_at hl 2 rfl) ?_
      obtain ⟨v6, h5, hf⟩ := cB_some hf
      refine a_i (k_V (As := [.int l3, .int l2]) (rest := []) cls3 lb_X3_canSay lv_X3_canSay q_886 (C_X3_canSay G.2.2.1 a0 l3 l2 σ h5 ok_a0) ⟨(Nat.le_of_ble_eq_true rfl), (Nat.le_of_ble_eq_true rfl)⟩ G w k_a0.1 k_a0.2 rfl rfl hl.1 (Nat.le_of_ble_eq_true rfl) (dcs_get dec_X3_spreadFewest_0 30 rfl) ⟨Nat.le_refl _, Nat.le_refl _⟩) G w (fun H locs w => ?_)
      refine lv_if_eq (tgt := 93) G.hx G.hb (dcs_get dec_X3_spreadFewest_0 31 rfl) (by decide) (fun hc => ?_) (fun hc => ?_)
      · rw [if_pos hc] at hf
        exact B_X3_spreadFewest_93 a0 l1 l2 l3 σ G hm ok_a0 hf hb0 hb1 hr w (lv_sub hl [0, 1, 2, 3] rfl)
      · rw [if_neg hc] at hf
        refine lv_iload_n G.hx G.hb (dcs_get dec_X3_spreadFewest_0 32 rfl) rfl (lv_at hl 2 rfl) ?_
        refine lv_aload_n G.hx G.hb (dcs_get dec_X3_spreadFewest_0 33 rfl) rfl (lv_at hl 0 rfl) ?_
        obtain ⟨z7, e_z7, ok_z7, hf⟩ := cR_some hf
        have k_z7 := okr_in ok_z7
        refine r_getr (k := 0) cls3 fi_3_0.1 fi_3_0.2 q_328 G w k_a0.1 k_a0.2 e_z7 (dcs_get dec_X3_spreadFewest_0 34 rfl) ?_
        refine lv_iload_n G.hx G.hb (dcs_get dec_X3_spreadFewest_0 35 rfl) rfl (lv_at hl 3 rfl) ?_
        obtain ⟨h8, hf⟩ := cG_some hf
        refine r_iald G w k_z7.1 k_z7.2 h8 (dcs_get dec_X3_spreadFewest_0 36 rfl) ?_
        refine lv_ior G.hx G.hb (dcs_get dec_X3_spreadFewest_0 37 rfl) ?_
        obtain ⟨v9, e_v9, hf⟩ := cL_some hf
        refine r_topi e_v9 ?_
        refine lv_istore (lv' := [(4, .int v9), (0, .ref (ad a0)), (1, .int l1), (2, .int l2), (3, .int l3)]) G.hx G.hb (dcs_get dec_X3_spreadFewest_0 38 rfl) hl (by decide) rfl (fun ls hl => ?_)
        refine lv_aload_n G.hx G.hb (dcs_get dec_X3_spreadFewest_0 39 rfl) rfl (lv_at hl 1 rfl) ?_
        obtain ⟨z10, e_z10, ok_z10, hf⟩ := cR_some hf
        have k_z10 := okr_in ok_z10
        refine r_getr (k := 3) cls3 fi_3_3.1 fi_3_3.2 q_331 G w k_a0.1 k_a0.2 e_z10 (dcs_get dec_X3_spreadFewest_1 0 rfl) ?_
        refine lv_iload G.hx G.hb (dcs_get dec_X3_spreadFewest_1 1 rfl) (lv_at hl 0 rfl) ?_
        refine lv_aload_n G.hx G.hb (dcs_get dec_X3_spreadFewest_1 2 rfl) rfl (lv_at hl 1 rfl) ?_
        obtain ⟨z11, e_z11, ok_z11, hf⟩ := cR_some hf
        have k_z11 := okr_in ok_z11
        refine r_getr (k := 3) cls3 fi_3_3.1 fi_3_3.2 q_331 G w k_a0.1 k_a0.2 e_z11 (dcs_get dec_X3_spreadFewest_1 3 rfl) ?_
        refine lv_iload G.hx G.hb (dcs_get dec_X3_spreadFewest_1 4 rfl) (lv_at hl 0 rfl) ?_
        obtain ⟨h12, hf⟩ := cG_some hf
        refine r_iald G w k_z11.1 k_z11.2 h12 (dcs_get dec_X3_spreadFewest_1 5 rfl) ?_
        refine lv_aload_n G.hx G.hb (dcs_get dec_X3_spreadFewest_1 6 rfl) rfl (lv_at hl 1 rfl) ?_
        obtain ⟨z13, e_z13, ok_z13, hf⟩ := cR_some hf
        have k_z13 := okr_in ok_z13
        refine r_getr (k := 2) cls3 fi_3_2.1 fi_3_2.2 q_330 G w k_a0.1 k_a0.2 e_z13 (dcs_get dec_X3_spreadFewest_1 7 rfl) ?_
        refine lv_iload_n G.hx G.hb (dcs_get dec_X3_spreadFewest_1 8 rfl) rfl (lv_at hl 3 rfl) ?_
        obtain ⟨h14, hf⟩ := cG_some hf
        refine r_iald G w k_z13.1 k_z13.2 h14 (dcs_get dec_X3_spreadFewest_1 9 rfl) ?_
        refine lv_iload_n G.hx G.hb (dcs_get dec_X3_spreadFewest_1 10 rfl) rfl (lv_at hl 4 rfl) ?_
        obtain ⟨v16, h15, hf⟩ := cB_some hf
        refine a_i (k_S (As := [.int l3]) (rest := [.int (σ.1 z13 l2.toNatClampNeg), .int (σ.1 z11 v9.toNatClampNeg), .int v9, .ref (ad z10)]) lb_J6_bitCount_0f7a4 q_784 q_910 (C_J6_bitCount_0f7a4 G.2.2.1 l3 σ h15 ) ⟨(Nat.le_of_ble_eq_true rfl), (Nat.le_of_ble_eq_true rfl)⟩ G w rfl rfl hl.1 (Nat.le_of_ble_eq_true rfl) (dcs_get dec_X3_spreadFewest_1 11 rfl) ⟨Nat.le_refl _, Nat.le_refl _⟩) G w (fun H locs w => ?_)
        refine lv_iadd G.hx G.hb (dcs_get dec_X3_spreadFewest_1 12 rfl) ?_
        refine r_min q_871 q_557 q_19 q_558 ⟨(Nat.le_of_ble_eq_true rfl), (Nat.le_of_ble_eq_true rfl)⟩ ⟨Nat.le_refl _, Nat.le_refl _⟩ G hl.1 (dcs_get dec_X3_spreadFewest_1 13 rfl) ?_
        obtain ⟨h17, hf⟩ := cG_some hf
        obtain ⟨σ18, e_σ18, hf⟩ := cL_some hf
        refine r_iast G w k_z10.1 k_z10.2 h17 (dcs_get dec_X3_spreadFewest_1 14 rfl) (fun H locs w => ?_)
        have w := Wd.nm e_σ18 w
        exact B_X3_spreadFewest_93 a0 l1 l2 l3 σ18 G hm ok_a0 hf hb0 hb1 hr w (lv_sub hl [1, 2, 3, 4] rfl)
set_option maxRecDepth 100000 in
set_option maxHeartbeats 4000000 in
theorem H_X3_spreadFewest_30 {σ0 : hSt} {o : (Int32 × hSt) ⊕ (hSt)} (a0 : Nat) (l1 : Int32) (l2 : Int32) (G : Gx p m c cX3_spreadFewest 5 s args RX3 D ay NC ad (aN NC ad)) (hm : meth.sig.returnType = none ∧ meth.locks = false) (ok_a0 : okr kC NC 3 a0 = true) (hb0 : ∀ (v : Int32 × hSt), o = .inl v → ∀ (H : Heap) (locs : List Loc) (ls : Array Slot), Wd D ay kC NC ad (aN NC ad) s v.2 H locs → lv_has ls 5 [(0, .ref (ad a0)), (1, .int l1), (2, .int v.1)] → W p l e (rmK 1 60) s m args below meth c H locs 0 0 (MQ below (cV D ay kC NC ad σ0) args s 0 0 (aN NC ad)) (F0 m 17 ls [])) (hr : ∀ x, o = .inr (x) → x = σ0) : ∀ (k : Nat) (v : Int32 × hSt), lp (S_X3_spreadFewest_30 a0 l1 l2) k v = some o → ∀ (H : Heap) (locs : List Loc) (ls : Array Slot), Wd D ay kC NC ad (aN NC ad) s v.2 H locs → lv_has ls 5 [(0, .ref (ad a0)), (1, .int l1), (2, .int l2), (3, .int v.1)] → W p l e (rmK 1 60) s m args below meth c H locs 0 0 (MQ below (cV D ay kC NC ad σ0) args s 0 0 (aN NC ad)) (F0 m 30 ls []) := by
  intro k
  induction k with
  | zero => intro v hf; cases hf
  | succ k ih =>
    intro v hf H locs ls w hl
    obtain ⟨o1, h1, h2, h3⟩ := lp_some hf
    exact B_X3_spreadFewest_30b a0 l1 l2 v.1 v.2 G hm ok_a0 h1 (fun v' e => hb0 v' (h3 _ e).symm) (fun v' e => ih v' (h2 v' e)) (fun x e => hr x (h3 _ e).symm) w hl
set_option maxRecDepth 100000 in
set_option maxHeartbeats 4000000 in
theorem B_X3_spreadFewest_30 {H : Heap} {locs : List Loc} {ls : Array Slot} {σ0 : hSt} {o : (Int32 × hSt) ⊕ (hSt)} (a0 : Nat) (l1 : Int32) (l2 : Int32) (l3 : Int32) (σ : hSt) (G : Gx p m c cX3_spreadFewest 5 s args RX3 D ay NC ad (aN NC ad)) (hm : meth.sig.returnType = none ∧ meth.locks = false) (ok_a0 : okr kC NC 3 a0 = true) (hf : F_X3_spreadFewest_30 a0 l1 l2 l3 σ = some o) (hb0 : ∀ (v : Int32 × hSt), o = .inl v → ∀ (H : Heap) (locs : List Loc) (ls : Array Slot), Wd D ay kC NC ad (aN NC ad) s v.2 H locs → lv_has ls 5 [(0, .ref (ad a0)), (1, .int l1), (2, .int v.1)] → W p l e (rmK 1 60) s m args below meth c H locs 0 0 (MQ below (cV D ay kC NC ad σ0) args s 0 0 (aN NC ad)) (F0 m 17 ls [])) (hr : ∀ x, o = .inr (x) → x = σ0) (w : Wd D ay kC NC ad (aN NC ad) s σ H locs) (hl : lv_has ls 5 [(0, .ref (ad a0)), (1, .int l1), (2, .int l2), (3, .int l3)]) : W p l e (rmK 1 60) s m args below meth c H locs 0 0 (MQ below (cV D ay kC NC ad σ0) args s 0 0 (aN NC ad)) (F0 m 30 ls []) := by
  unfold F_X3_spreadFewest_30 at hf
  exact H_X3_spreadFewest_30 a0 l1 l2  G hm ok_a0 hb0 hr fuel (l3, σ) hf _ _ _ w hl
set_option maxRecDepth 100000 in
set_option maxHeartbeats 4000000 in
theorem B_X3_spreadFewest_105 {H : Heap} {locs : List Loc} {ls : Array Slot} {σ0 : hSt} (a0 : Nat) (σ : hSt) (G : Gx p m c cX3_spreadFewest 5 s args RX3 D ay NC ad (aN NC ad)) (hm : meth.sig.returnType = none ∧ meth.locks = false) (ok_a0 : okr kC NC 3 a0 = true) (hf : F_X3_spreadFewest_105 a0 σ = some σ0)  (w : Wd D ay kC NC ad (aN NC ad) s σ H locs) (hl : lv_has ls 5 [(0, .ref (ad a0))]) : W p l e (rmK 1 60) s m args below meth c H locs 0 0 (MQ below (cV D ay kC NC ad σ0) args s 0 0 (aN NC ad)) (F0 m 105 ls []) := by
  have k_a0 := okr_in ok_a0
  unfold F_X3_spreadFewest_105 at hf
  refine lv_aload_n G.hx G.hb (dcs_get dec_X3_spreadFewest_1 19 rfl) rfl (lv_at hl 0 rfl) ?_
  obtain ⟨z19, e_z19, ok_z19, hf⟩ := cR_some hf
  have k_z19 := okr_in ok_z19
  refine r_getr (k := 2) cls3 fi_3_2.1 fi_3_2.2 q_330 G w k_a0.1 k_a0.2 e_z19 (dcs_get dec_X3_spreadFewest_1 20 rfl) ?_
  refine lv_astore_n (lv' := [(2, .ref (ad z19)), (0, .ref (ad a0))]) G.hx G.hb (dcs_get dec_X3_spreadFewest_1 21 rfl) rfl hl (by decide) rfl (fun ls hl => ?_)
  refine lv_aload_n G.hx G.hb (dcs_get dec_X3_spreadFewest_1 22 rfl) rfl (lv_at hl 1 rfl) ?_
  refine lv_aload_n G.hx G.hb (dcs_get dec_X3_spreadFewest_1 23 rfl) rfl (lv_at hl 1 rfl) ?_
  obtain ⟨z20, e_z20, ok_z20, hf⟩ := cR_some hf
  have k_z20 := okr_in ok_z20
  refine r_getr (k := 3) cls3 fi_3_3.1 fi_3_3.2 q_331 G w k_a0.1 k_a0.2 e_z20 (dcs_get dec_X3_spreadFewest_1 24 rfl) ?_
  obtain ⟨σ21, e_σ21, hf⟩ := cL_some hf
  refine r_putr (k := 2) cls3 ct3 fi_3_2.1 fi_3_2.2 fp_3_2.1 fp_3_2.2 q_330 (fun _ => rfl) (fun _ => rfl) G w k_a0.1 k_a0.2 (dcs_get dec_X3_spreadFewest_1 25 rfl) (fun H locs w => ?_)
  have w := Wd.nm e_σ21 w
  refine lv_aload_n G.hx G.hb (dcs_get dec_X3_spreadFewest_1 26 rfl) rfl (lv_at hl 1 rfl) ?_
  refine lv_aload_n G.hx G.hb (dcs_get dec_X3_spreadFewest_1 27 rfl) rfl (lv_at hl 0 rfl) ?_
  obtain ⟨σ22, e_σ22, hf⟩ := cL_some hf
  refine r_putr (k := 3) cls3 ct3 fi_3_3.1 fi_3_3.2 fp_3_3.1 fp_3_3.2 q_331 (fun _ => rfl) (fun _ => rfl) G w k_a0.1 k_a0.2 (dcs_get dec_X3_spreadFewest_1 28 rfl) (fun H locs w => ?_)
  have w := Wd.nm e_σ22 w
  have e9 := Option.some.inj hf
  exact r_vret G w hm e9 (dcs_get dec_X3_spreadFewest_1 29 rfl)
set_option maxRecDepth 100000 in
set_option maxHeartbeats 4000000 in
theorem B_X3_spreadFewest_17b {H : Heap} {locs : List Loc} {ls : Array Slot} {σ0 : hSt} {o : (Int32 × hSt) ⊕ (hSt)} (a0 : Nat) (l1 : Int32) (l2 : Int32) (σ : hSt) (G : Gx p m c cX3_spreadFewest 5 s args RX3 D ay NC ad (aN NC ad)) (hm : meth.sig.returnType = none ∧ meth.locks = false) (ok_a0 : okr kC NC 3 a0 = true) (hf : F_X3_spreadFewest_17b a0 l1 l2 σ = some o) (hb0 : ∀ (v : Int32 × hSt), o = .inl v → ∀ (H : Heap) (locs : List Loc) (ls : Array Slot), Wd D ay kC NC ad (aN NC ad) s v.2 H locs → lv_has ls 5 [(0, .ref (ad a0)), (1, .int l1), (2, .int v.1)] → W p l e (rmK 1 60) s m args below meth c H locs 0 0 (MQ below (cV D ay kC NC ad σ0) args s 0 0 (aN NC ad)) (F0 m 17 ls [])) (hr : ∀ x, o = .inr (x) → x = σ0) (w : Wd D ay kC NC ad (aN NC ad) s σ H locs) (hl : lv_has ls 5 [(0, .ref (ad a0)), (1, .int l1), (2, .int l2)]) : W p l e (rmK 1 60) s m args below meth c H locs 0 0 (MQ below (cV D ay kC NC ad σ0) args s 0 0 (aN NC ad)) (F0 m 17 ls []) := by
  have k_a0 := okr_in ok_a0
  unfold F_X3_spreadFewest_17b at hf
  refine lv_iload_n G.hx G.hb (dcs_get dec_X3_spreadFewest_0 10 rfl) rfl (lv_at hl 2 rfl) ?_
  refine lv_iload_n G.hx G.hb (dcs_get dec_X3_spreadFewest_0 11 rfl) rfl (lv_at hl 1 rfl) ?_
  refine lv_icmp_gt (tgt := 105) G.hx G.hb (dcs_get dec_X3_spreadFewest_0 12 rfl) (by decide) (fun hc => ?_) (fun hc => ?_)
  · rw [if_pos hc] at hf
    obtain ⟨x9, h9, e9⟩ := map_some_inv hf
    subst e9
    have e8 := hr _ rfl
    rw [e8] at h9
    exact B_X3_spreadFewest_105 a0 σ G hm ok_a0 h9 w (lv_sub hl [0] rfl)
  · rw [if_neg hc] at hf
    refine lv_iload_n G.hx G.hb (dcs_get dec_X3_spreadFewest_0 13 rfl) rfl (lv_at hl 2 rfl) ?_
    refine lv_bipush (v := (64 : Int32)) G.hx G.hb (dcs_get dec_X3_spreadFewest_0 14 rfl) (by decide) ?_
    refine lv_icmp_ge (tgt := 105) G.hx G.hb (dcs_get dec_X3_spreadFewest_0 15 rfl) (by decide) (fun hc => ?_) (fun hc => ?_)
    · rw [if_pos hc] at hf
      obtain ⟨x9, h9, e9⟩ := map_some_inv hf
      subst e9
      have e8 := hr _ rfl
      rw [e8] at h9
      exact B_X3_spreadFewest_105 a0 σ G hm ok_a0 h9 w (lv_sub hl [0] rfl)
    · rw [if_neg hc] at hf
      refine lv_iconst (v := (1 : Int32)) G.hx G.hb (dcs_get dec_X3_spreadFewest_0 16 rfl) (by decide) ?_
      refine lv_istore_n (lv' := [(3, .int (1 : Int32)), (0, .ref (ad a0)), (1, .int l1), (2, .int l2)]) G.hx G.hb (dcs_get dec_X3_spreadFewest_0 17 rfl) rfl hl (by decide) rfl (fun ls hl => ?_)
      exact B_X3_spreadFewest_30 a0 l1 l2 (1 : Int32) σ G hm ok_a0 hf hb0 hr w (lv_sub hl [1, 2, 3, 0] rfl)
set_option maxRecDepth 100000 in
set_option maxHeartbeats 4000000 in
theorem H_X3_spreadFewest_17 {σ0 : hSt} (a0 : Nat) (l1 : Int32) (G : Gx p m c cX3_spreadFewest 5 s args RX3 D ay NC ad (aN NC ad)) (hm : meth.sig.returnType = none ∧ meth.locks = false) (ok_a0 : okr kC NC 3 a0 = true)  : ∀ (k : Nat) (v : Int32 × hSt), lp (S_X3_spreadFewest_17 a0 l1) k v = some σ0 → ∀ (H : Heap) (locs : List Loc) (ls : Array Slot), Wd D ay kC NC ad (aN NC ad) s v.2 H locs → lv_has ls 5 [(0, .ref (ad a0)), (1, .int l1), (2, .int v.1)] → W p l e (rmK 1 60) s m args below meth c H locs 0 0 (MQ below (cV D ay kC NC ad σ0) args s 0 0 (aN NC ad)) (F0 m 17 ls []) := by
  intro k
  induction k with
  | zero => intro v hf; cases hf
  | succ k ih =>
    intro v hf H locs ls w hl
    obtain ⟨o1, h1, h2, h3⟩ := lp_some hf
    exact B_X3_spreadFewest_17b a0 l1 v.1 v.2 G hm ok_a0 h1  (fun v' e => ih v' (h2 v' e)) (fun x e => h3 x e) w hl
set_option maxRecDepth 100000 in
set_option maxHeartbeats 4000000 in
theorem B_X3_spreadFewest_17 {H : Heap} {locs : List Loc} {ls : Array Slot} {σ0 : hSt} (a0 : Nat) (l1 : Int32) (l2 : Int32) (σ : hSt) (G : Gx p m c cX3_spreadFewest 5 s args RX3 D ay NC ad (aN NC ad)) (hm : meth.sig.returnType = none ∧ meth.locks = false) (ok_a0 : okr kC NC 3 a0 = true) (hf : F_X3_spreadFewest_17 a0 l1 l2 σ = some σ0)  (w : Wd D ay kC NC ad (aN NC ad) s σ H locs) (hl : lv_has ls 5 [(0, .ref (ad a0)), (1, .int l1), (2, .int l2)]) : W p l e (rmK 1 60) s m args below meth c H locs 0 0 (MQ below (cV D ay kC NC ad σ0) args s 0 0 (aN NC ad)) (F0 m 17 ls []) := by
  unfold F_X3_spreadFewest_17 at hf
  exact H_X3_spreadFewest_17 a0 l1  G hm ok_a0  fuel (l2, σ) hf _ _ _ w hl
set_option maxRecDepth 100000 in
set_option maxHeartbeats 4000000 in
theorem B_X3_spreadFewest_0 {H : Heap} {locs : List Loc} {ls : Array Slot} {σ0 : hSt} (a0 : Nat) (l1 : Int32) (σ : hSt) (G : Gx p m c cX3_spreadFewest 5 s args RX3 D ay NC ad (aN NC ad)) (hm : meth.sig.returnType = none ∧ meth.locks = false) (ok_a0 : okr kC NC 3 a0 = true) (hf : F_X3_spreadFewest a0 l1 σ = some σ0)  (w : Wd D ay kC NC ad (aN NC ad) s σ H locs) (hl : lv_has ls 5 [(0, .ref (ad a0)), (1, .int l1)]) : W p l e (rmK 1 60) s m args below meth c H locs 0 0 (MQ below (cV D ay kC NC ad σ0) args s 0 0 (aN NC ad)) (F0 m 0 ls []) := by
  have k_a0 := okr_in ok_a0
  unfold F_X3_spreadFewest at hf
  refine lv_aload_n G.hx G.hb (dcs_get dec_X3_spreadFewest_0 0 rfl) rfl (lv_at hl 0 rfl) ?_
  obtain ⟨z23, e_z23, ok_z23, hf⟩ := cR_some hf
  have k_z23 := okr_in ok_z23
  refine r_getr (k := 2) cls3 fi_3_2.1 fi_3_2.2 q_330 G w k_a0.1 k_a0.2 e_z23 (dcs_get dec_X3_spreadFewest_0 1 rfl) ?_
  refine lv_iconst (v := (0 : Int32)) G.hx G.hb (dcs_get dec_X3_spreadFewest_0 2 rfl) (by decide) ?_
  refine lv_aload_n G.hx G.hb (dcs_get dec_X3_spreadFewest_0 3 rfl) rfl (lv_at hl 0 rfl) ?_
  obtain ⟨z24, e_z24, ok_z24, hf⟩ := cR_some hf
  have k_z24 := okr_in ok_z24
  refine r_getr (k := 3) cls3 fi_3_3.1 fi_3_3.2 q_331 G w k_a0.1 k_a0.2 e_z24 (dcs_get dec_X3_spreadFewest_0 4 rfl) ?_
  refine lv_iconst (v := (0 : Int32)) G.hx G.hb (dcs_get dec_X3_spreadFewest_0 5 rfl) (by decide) ?_
  refine lv_bipush (v := (64 : Int32)) G.hx G.hb (dcs_get dec_X3_spreadFewest_0 6 rfl) (by decide) ?_
  obtain ⟨h25, hf⟩ := cG_some hf
  obtain ⟨σ26, e_σ26, hf⟩ := cL_some hf
  refine r_copy q_909 q_769 q_768 q_21 ⟨Nat.le_of_ble_eq_true rfl, Nat.le_of_ble_eq_true rfl⟩ G w k_z23.1 k_z23.2 k_z24.1 k_z24.2 h25 hl.1 (dcs_get dec_X3_spreadFewest_0 7 rfl) (fun H locs w => ?_)
  have w := Wd.nm e_σ26 w
  refine lv_iconst (v := (0 : Int32)) G.hx G.hb (dcs_get dec_X3_spreadFewest_0 8 rfl) (by decide) ?_
  refine lv_istore_n (lv' := [(2, .int (0 : Int32)), (0, .ref (ad a0)), (1, .int l1)]) G.hx G.hb (dcs_get dec_X3_spreadFewest_0 9 rfl) rfl hl (by decide) rfl (fun ls hl => ?_)
  exact B_X3_spreadFewest_17 a0 l1 (0 : Int32) σ26 G hm ok_a0 hf  w (lv_sub hl [1, 2, 0] rfl)
end
set_option maxRecDepth 100000 in
set_option maxHeartbeats 4000000 in
theorem C_X3_spreadFewest {l : Launch} {D : va_G} {ay : Nat → ClassId} {ad : Nat → Nat} (hi : hInj NC ad) (a0 : Nat) (l1 : Int32) (σ : hSt) {σ0 : hSt} (hf : F_X3_spreadFewest a0 l1 σ = some σ0) (ok_a0 : okr kC NC 3 a0 = true) : hM l D ay kC NC ad yX3_spreadFewest cX3_spreadFewest 5 (none) (rmK 1 60) [.ref (ad a0), .int l1] σ (cV D ay kC NC ad σ0) := by
  refine hM_in (by decide) hi (Nat.le_of_ble_eq_true rfl) ?_
  intro p e s m below meth c G hm w ls hl
  exact B_X3_spreadFewest_0 a0 l1 σ G hm ok_a0 hf w (lv_sub hl [0, 1] rfl)

/-! HillDrums.Plans.fewestDrums(LHillDrums$Text;LHillDrums$World;I)I -/
def DL_X3_fewestDrums_0 : List (Nat × Instr × Nat) := [(0, .aload_n 1, 1), (1, .invokevirtual 75, 3), (4, .istore 4, 2), (6, .aload_n 0, 1), (7, .getfield 19, 3), (10, .ldc 79, 2), (12, .invokestatic 80, 3), (15, .aload_n 0, 1), (16, .getfield 19, 3), (19, .aload_n 2, 1), (20, .getfield 48, 3), (23, .iload_n 3, 1), (24, .invokestatic 53, 3), (27, .iconst 0, 1), (28, .iastore, 1), (29, .iconst 1, 1), (30, .istore 5, 2), (32, .iload 5, 2), (34, .bipush 60, 2), (36, .if_icmp .gt 37, 3), (39, .aload_n 0, 1), (40, .getfield 19, 3), (43, .iload 4, 2), (45, .iaload, 1), (46, .ifCond .eq 27, 3), (49, .aload_n 0, 1), (50, .aload_n 1, 1), (51, .aload_n 2, 1), (52, .getfield 60, 3), (55, .iload 5, 2), (57, .iadd, 1), (58, .invokevirtual 63, 3), (61, .aload_n 0, 1), (62, .iload 4, 2), (64, .invokevirtual 86, 3), (67, .iinc 5 1, 3), (70, .goto (-38), 3), (73, .aload_n 0, 1), (74, .getfield 19, 3), (77, .iload 4, 2)]
set_option maxRecDepth 100000 in
theorem dec_X3_fewestDrums_0 : dcs cX3_fewestDrums DL_X3_fewestDrums_0 = true := by decide +kernel
def DL_X3_fewestDrums_1 : List (Nat × Instr × Nat) := [(79, .iaload, 1), (80, .ldc 79, 2), (82, .if_icmp .ge 13, 3), (85, .aload_n 0, 1), (86, .getfield 19, 3), (89, .iload 4, 2), (91, .iaload, 1), (92, .goto 5, 3), (95, .bipush (-2), 2), (97, .ireturn, 1)]
set_option maxRecDepth 100000 in
theorem dec_X3_fewestDrums_1 : dcs cX3_fewestDrums DL_X3_fewestDrums_1 = true := by decide +kernel
theorem lb_X3_fewestDrums : lkB yX3_fewestDrums cX3_fewestDrums 6 ((some .int)) 3 := ⟨q_901, q_11, ⟨by decide, by decide⟩, by decide +kernel⟩
theorem lv_X3_fewestDrums : lkV yX3_fewestDrums := ⟨q_900, qs_57⟩
def F_X3_fewestDrums_97 (s0 : Int32) (σ : hSt) : Option (Int32 × hSt) :=
some ((s0, σ))
def F_X3_fewestDrums_73 (a0 : Nat) (l4 : Int32) (σ : hSt) : Option (Int32 × hSt) :=
cR (σ.2.2 a0 2) (okr kC NC 101) fun z1 =>
cG (inb l4 (kC z1).2) <|
if (1000000 : Int32) ≤ (σ.1 z1 l4.toNatClampNeg) then (
F_X3_fewestDrums_97 (-2 : Int32) σ) else (
cR (σ.2.2 a0 2) (okr kC NC 101) fun z3 =>
cG (inb l4 (kC z3).2) <|
F_X3_fewestDrums_97 (σ.1 z3 l4.toNatClampNeg) σ)
def F_X3_fewestDrums_32b (a0 : Nat) (a1 : Nat) (a2 : Nat) (l4 : Int32) (l5 : Int32) (σ : hSt) : Option ((Int32 × hSt) ⊕ (Int32 × hSt)) :=
if (60 : Int32) < l5 then (
(F_X3_fewestDrums_73 a0 l4 σ).map (fun x => .inr (x))) else (
cR (σ.2.2 a0 2) (okr kC NC 101) fun z5 =>
cG (inb l4 (kC z5).2) <|
if (σ.1 z5 l4.toNatClampNeg) = 0 then (
(F_X3_fewestDrums_73 a0 l4 σ).map (fun x => .inr (x))) else (
(F_X3_setDay a0 a1 ((σ.1 a2 0) + l5) σ).bind fun σ8 =>
(F_X3_spreadFewest a0 l4 σ8).bind fun σ10 =>
cL (l5 + (1 : Int32)) fun v11 =>
some (.inl (v11, σ10))))
def S_X3_fewestDrums_32 (a0 : Nat) (a1 : Nat) (a2 : Nat) (l4 : Int32) (v : Int32 × hSt) : Option ((Int32 × hSt) ⊕ (Int32 × hSt)) := F_X3_fewestDrums_32b a0 a1 a2 l4 v.1 v.2
def F_X3_fewestDrums_32 (a0 : Nat) (a1 : Nat) (a2 : Nat) (l4 : Int32) (l5 : Int32) (σ : hSt) : Option (Int32 × hSt) := lp (S_X3_fewestDrums_32 a0 a1 a2 l4) fuel (l5, σ)
def F_X3_fewestDrums (a0 : Nat) (a1 : Nat) (a2 : Nat) (l3 : Int32) (σ : hSt) : Option (Int32 × hSt) :=
(F_X7_allHills a1 σ).bind fun v13 =>
cR (σ.2.2 a0 2) (okr kC NC 101) fun z14 =>
(F_J7_fill_53178 z14 (1000000 : Int32) σ).bind fun σ16 =>
cR (σ16.2.2 a0 2) (okr kC NC 101) fun z17 =>
(F_X11_rowOf (σ16.1 a2 1) l3 σ16).bind fun v19 =>
cG (inb v19 (kC z17).2) <|
cL (uI σ16 z17 v19.toNatClampNeg (0 : Int32)) fun σ21 =>
F_X3_fewestDrums_32 a0 a1 a2 v13 (1 : Int32) σ21
section
variable {p : Program} {l : Launch} {e : Env} {s : State} {m : MethodId} {args : Array Value} {below : List Frame} {meth : Method} {c : Code} {D : va_G} {ay : Nat → ClassId} {ad : Nat → Nat}
set_option maxRecDepth 100000 in
set_option maxHeartbeats 4000000 in
theorem B_X3_fewestDrums_97 {H : Heap} {locs : List Loc} {ls : Array Slot} {r0 : Int32} {σ0 : hSt} (s0 : Int32) (σ : hSt) (G : Gx p m c cX3_fewestDrums 6 s args RX3 D ay NC ad (aN NC ad)) (hm : meth.sig.returnType = (some .int) ∧ meth.locks = false)  (hf : F_X3_fewestDrums_97 s0 σ = some (r0, σ0))  (w : Wd D ay kC NC ad (aN NC ad) s σ H locs) (hl : lv_has ls 6 []) : W p l e (rmK 5 124) s m args below meth c H locs 0 0 (MQ below (cI D ay kC NC ad r0 σ0) args s 0 0 (aN NC ad)) (F0 m 97 ls [.int s0]) := by
  unfold F_X3_fewestDrums_97 at hf
  have e9 := Option.some.inj hf
  exact r_iret G w hm (congrArg Prod.fst e9) (congrArg Prod.snd e9) (dcs_get dec_X3_fewestDrums_1 9 rfl)
set_option maxRecDepth 100000 in
set_option maxHeartbeats 4000000 in
theorem B_X3_fewestDrums_73 {H : Heap} {locs : List Loc} {ls : Array Slot} {r0 : Int32} {σ0 : hSt} (a0 : Nat) (l4 : Int32) (σ : hSt) (G : Gx p m c cX3_fewestDrums 6 s args RX3 D ay NC ad (aN NC ad)) (hm : meth.sig.returnType = (some .int) ∧ meth.locks = false) (ok_a0 : okr kC NC 3 a0 = true) (hf : F_X3_fewestDrums_73 a0 l4 σ = some (r0, σ0))  (w : Wd D ay kC NC ad (aN NC ad) s σ H locs) (hl : lv_has ls 6 [(0, .ref (ad a0)), (4, .int l4)]) : W p l e (rmK 5 124) s m args below meth c H locs 0 0 (MQ below (cI D ay kC NC ad r0 σ0) args s 0 0 (aN NC ad)) (F0 m 73 ls []) := by
  have k_a0 := okr_in ok_a0
  unfold F_X3_fewestDrums_73 at hf
  refine lv_aload_n G.hx G.hb (dcs_get dec_X3_fewestDrums_0 37 rfl) rfl (lv_at hl 0 rfl) ?_
  obtain ⟨z1, e_z1, ok_z1, hf⟩ := cR_some hf
  have k_z1 := okr_in ok_z1
  refine r_getr (k := 2) cls3 fi_3_2.1 fi_3_2.2 q_330 G w k_a0.1 k_a0.2 e_z1 (dcs_get dec_X3_fewestDrums_0 38 rfl) ?_
  refine lv_iload G.hx G.hb (dcs_get dec_X3_fewestDrums_0 39 rfl) (lv_at hl 1 rfl) ?_
  obtain ⟨h2, hf⟩ := cG_some hf
  refine r_iald G w k_z1.1 k_z1.2 h2 (dcs_get dec_X3_fewestDrums_1 0 rfl) ?_
  refine lv_ldc G.hx G.hb G.hown (G.hts _ q_903) (dcs_get dec_X3_fewestDrums_1 1 rfl) ?_
  refine lv_icmp_ge (tgt := 95) G.hx G.hb (dcs_get dec_X3_fewestDrums_1 2 rfl) (by decide) (fun hc => ?_) (fun hc => ?_)
  · rw [if_pos hc] at hf
    refine lv_bipush (v := (-2 : Int32)) G.hx G.hb (dcs_get dec_X3_fewestDrums_1 8 rfl) (by decide) ?_
    exact B_X3_fewestDrums_97 (-2 : Int32) σ G hm  hf  w (lv_sub hl [] rfl)
  · rw [if_neg hc] at hf
    refine lv_aload_n G.hx G.hb (dcs_get dec_X3_fewestDrums_1 3 rfl) rfl (lv_at hl 0 rfl) ?_
    obtain ⟨z3, e_z3, ok_z3, hf⟩ := cR_some hf
    have k_z3 := okr_in ok_z3
    refine r_getr (k := 2) cls3 fi_3_2.1 fi_3_2.2 q_330 G w k_a0.1 k_a0.2 e_z3 (dcs_get dec_X3_fewestDrums_1 4 rfl) ?_
    refine lv_iload G.hx G.hb (dcs_get dec_X3_fewestDrums_1 5 rfl) (lv_at hl 1 rfl) ?_
    obtain ⟨h4, hf⟩ := cG_some hf
    refine r_iald G w k_z3.1 k_z3.2 h4 (dcs_get dec_X3_fewestDrums_1 6 rfl) ?_
    refine lv_goto (tgt := 97) G.hx G.hb (dcs_get dec_X3_fewestDrums_1 7 rfl) (by decide) ?_
    exact B_X3_fewestDrums_97 (σ.1 z3 l4.toNatClampNeg) σ G hm  hf  w (lv_sub hl [] rfl)
set_option maxRecDepth 100000 in
set_option maxHeartbeats 4000000 in
theorem B_X3_fewestDrums_32b {H : Heap} {locs : List Loc} {ls : Array Slot} {r0 : Int32} {σ0 : hSt} {o : (Int32 × hSt) ⊕ (Int32 × hSt)} (a0 : Nat) (a1 : Nat) (a2 : Nat) (l4 : Int32) (l5 : Int32) (σ : hSt) (G : Gx p m c cX3_fewestDrums 6 s args RX3 D ay NC ad (aN NC ad)) (hm : meth.sig.returnType = (some .int) ∧ meth.locks = false) (ok_a0 : okr kC NC 3 a0 = true) (ok_a1 : okr kC NC 7 a1 = true) (ok_a2 : okr kC NC 10 a2 = true) (hf : F_X3_fewestDrums_32b a0 a1 a2 l4 l5 σ = some o) (hb0 : ∀ (v : Int32 × hSt), o = .inl v → ∀ (H : Heap) (locs : List Loc) (ls : Array Slot), Wd D ay kC NC ad (aN NC ad) s v.2 H locs → lv_has ls 6 [(0, .ref (ad a0)), (1, .ref (ad a1)), (2, .ref (ad a2)), (4, .int l4), (5, .int v.1)] → W p l e (rmK 5 124) s m args below meth c H locs 0 0 (MQ below (cI D ay kC NC ad r0 σ0) args s 0 0 (aN NC ad)) (F0 m 32 ls [])) (hr : ∀ x, o = .inr (x) → x = (r0, σ0)) (w : Wd D ay kC NC ad (aN NC ad) s σ H locs) (hl : lv_has ls 6 [(0, .ref (ad a0)), (1, .ref (ad a1)), (2, .ref (ad a2)), (4, .int l4), (5, .int l5)]) : W p l e (rmK 5 124) s m args below meth c H locs 0 0 (MQ below (cI D ay kC NC ad r0 σ0) args s 0 0 (aN NC ad)) (F0 m 32 ls []) := by
  have k_a0 := okr_in ok_a0
  have k_a1 := okr_in ok_a1
  have k_a2 := okr_in ok_a2
  unfold F_X3_fewestDrums_32b at hf
  refine lv_iload G.hx G.hb (dcs_get dec_X3_fewestDrums_0 17 rfl) (lv_at hl 4 rfl) ?_
  refine lv_bipush (v := (60 : Int32)) G.hx G.hb (dcs_get dec_X3_fewestDrums_0 18 rfl) (by decide) ?_
  refine lv_icmp_gt (tgt := 73) G.hx G.hb (dcs_get dec_X3_fewestDrums_0 19 rfl) (by decide) (fun hc => ?_) (fun hc => ?_)
  · rw [if_pos hc] at hf
    obtain ⟨x9, h9, e9⟩ := map_some_inv hf
    subst e9
    have e8 := hr _ rfl
    rw [e8] at h9
    exact B_X3_fewestDrums_73 a0 l4 σ G hm ok_a0 h9 w (lv_sub hl [0, 3] rfl)
  · rw [if_neg hc] at hf
    refine lv_aload_n G.hx G.hb (dcs_get dec_X3_fewestDrums_0 20 rfl) rfl (lv_at hl 0 rfl) ?_
    obtain ⟨z5, e_z5, ok_z5, hf⟩ := cR_some hf
    have k_z5 := okr_in ok_z5
    refine r_getr (k := 2) cls3 fi_3_2.1 fi_3_2.2 q_330 G w k_a0.1 k_a0.2 e_z5 (dcs_get dec_X3_fewestDrums_0 21 rfl) ?_
    refine lv_iload G.hx G.hb (dcs_get dec_X3_fewestDrums_0 22 rfl) (lv_at hl 3 rfl) ?_
    obtain ⟨h6, hf⟩ := cG_some hf
    refine r_iald G w k_z5.1 k_z5.2 h6 (dcs_get dec_X3_fewestDrums_0 23 rfl) ?_
    refine lv_if_eq (tgt := 73) G.hx G.hb (dcs_get dec_X3_fewestDrums_0 24 rfl) (by decide) (fun hc => ?_) (fun hc => ?_)
    · rw [if_pos hc] at hf
      obtain ⟨x9, h9, e9⟩ := map_some_inv hf
      subst e9
      have e8 := hr _ rfl
      rw [e8] at h9
      exact B_X3_fewestDrums_73 a0 l4 σ G hm ok_a0 h9 w (lv_sub hl [0, 3] rfl)
    · rw [if_neg hc] at hf
      refine lv_aload_n G.hx G.hb (dcs_get dec_X3_fewestDrums_0 25 rfl) rfl (lv_at hl 0 rfl) ?_
      refine lv_aload_n G.hx G.hb (dcs_get dec_X3_fewestDrums_0 26 rfl) rfl (lv_at hl 1 rfl) ?_
      refine lv_aload_n G.hx G.hb (dcs_get dec_X3_fewestDrums_0 27 rfl) rfl (lv_at hl 2 rfl) ?_
      refine r_getiN (k := 0) cls10 fi_10_0.1 fi_10_0.2 nf_235 G w k_a2.1 k_a2.2 (dcs_get dec_X3_fewestDrums_0 28 rfl) ?_
      refine lv_iload G.hx G.hb (dcs_get dec_X3_fewestDrums_0 29 rfl) (lv_at hl 4 rfl) ?_
      refine lv_iadd G.hx G.hb (dcs_get dec_X3_fewestDrums_0 30 rfl) ?_
      obtain ⟨σ8, h7, hf⟩ := cB_some hf
      refine a_v (k_V (As := [.ref (ad a1), .int ((σ.1 a2 0) + l5)]) (rest := []) cls3 lb_X3_setDay lv_X3_setDay q_876 (C_X3_setDay G.2.2.1 a0 a1 ((σ.1 a2 0) + l5) σ h7 ok_a0 ok_a1) ⟨(Nat.le_of_ble_eq_true rfl), (Nat.le_of_ble_eq_true rfl)⟩ G w k_a0.1 k_a0.2 rfl rfl hl.1 (Nat.le_of_ble_eq_true rfl) (dcs_get dec_X3_fewestDrums_0 31 rfl) ⟨Nat.le_refl _, Nat.le_refl _⟩) G w (fun H locs w => ?_)
      refine lv_aload_n G.hx G.hb (dcs_get dec_X3_fewestDrums_0 32 rfl) rfl (lv_at hl 0 rfl) ?_
      refine lv_iload G.hx G.hb (dcs_get dec_X3_fewestDrums_0 33 rfl) (lv_at hl 3 rfl) ?_
      obtain ⟨σ10, h9, hf⟩ := cB_some hf
      refine a_v (k_V (As := [.int l4]) (rest := []) cls3 lb_X3_spreadFewest lv_X3_spreadFewest q_905 (C_X3_spreadFewest G.2.2.1 a0 l4 σ8 h9 ok_a0) ⟨(Nat.le_of_ble_eq_true rfl), (Nat.le_of_ble_eq_true rfl)⟩ G w k_a0.1 k_a0.2 rfl rfl hl.1 (Nat.le_of_ble_eq_true rfl) (dcs_get dec_X3_fewestDrums_0 34 rfl) ⟨Nat.le_refl _, Nat.le_refl _⟩) G w (fun H locs w => ?_)
      obtain ⟨v11, e_v11, hf⟩ := cL_some hf
      refine lv_iinc (v := v11) (lv' := [(5, .int v11), (0, .ref (ad a0)), (1, .ref (ad a1)), (2, .ref (ad a2)), (4, .int l4)]) G.hx G.hb (dcs_get dec_X3_fewestDrums_0 35 rfl) hl (k := 4) rfl (by rw [e_v11]; rfl) (by decide) rfl (fun ls hl => ?_)
      refine lv_goto (tgt := 32) G.hx G.hb (dcs_get dec_X3_fewestDrums_0 36 rfl) (by decide) ?_
      exact hb0 _ (Option.some.inj hf).symm _ _ _ w (lv_sub hl [1, 2, 3, 4, 0] rfl)
set_option maxRecDepth 100000 in
set_option maxHeartbeats 4000000 in
theorem H_X3_fewestDrums_32 {r0 : Int32} {σ0 : hSt} (a0 : Nat) (a1 : Nat) (a2 : Nat) (l4 : Int32) (G : Gx p m c cX3_fewestDrums 6 s args RX3 D ay NC ad (aN NC ad)) (hm : meth.sig.returnType = (some .int) ∧ meth.locks = false) (ok_a0 : okr kC NC 3 a0 = true) (ok_a1 : okr kC NC 7 a1 = true) (ok_a2 : okr kC NC 10 a2 = true)  : ∀ (k : Nat) (v : Int32 × hSt), lp (S_X3_fewestDrums_32 a0 a1 a2 l4) k v = some (r0, σ0) → ∀ (H : Heap) (locs : List Loc) (ls : Array Slot), Wd D ay kC NC ad (aN NC ad) s v.2 H locs → lv_has ls 6 [(0, .ref (ad a0)), (1, .ref (ad a1)), (2, .ref (ad a2)), (4, .int l4), (5, .int v.1)] → W p l e (rmK 5 124) s m args below meth c H locs 0 0 (MQ below (cI D ay kC NC ad r0 σ0) args s 0 0 (aN NC ad)) (F0 m 32 ls []) := by
  intro k
  induction k with
  | zero => intro v hf; cases hf
  | succ k ih =>
    intro v hf H locs ls w hl
    obtain ⟨o1, h1, h2, h3⟩ := lp_some hf
    exact B_X3_fewestDrums_32b a0 a1 a2 l4 v.1 v.2 G hm ok_a0 ok_a1 ok_a2 h1  (fun v' e => ih v' (h2 v' e)) (fun x e => h3 x e) w hl
set_option maxRecDepth 100000 in
set_option maxHeartbeats 4000000 in
theorem B_X3_fewestDrums_32 {H : Heap} {locs : List Loc} {ls : Array Slot} {r0 : Int32} {σ0 : hSt} (a0 : Nat) (a1 : Nat) (a2 : Nat) (l4 : Int32) (l5 : Int32) (σ : hSt) (G : Gx p m c cX3_fewestDrums 6 s args RX3 D ay NC ad (aN NC ad)) (hm : meth.sig.returnType = (some .int) ∧ meth.locks = false) (ok_a0 : okr kC NC 3 a0 = true) (ok_a1 : okr kC NC 7 a1 = true) (ok_a2 : okr kC NC 10 a2 = true) (hf : F_X3_fewestDrums_32 a0 a1 a2 l4 l5 σ = some (r0, σ0))  (w : Wd D ay kC NC ad (aN NC ad) s σ H locs) (hl : lv_has ls 6 [(0, .ref (ad a0)), (1, .ref (ad a1)), (2, .ref (ad a2)), (4, .int l4), (5, .int l5)]) : W p l e (rmK 5 124) s m args below meth c H locs 0 0 (MQ below (cI D ay kC NC ad r0 σ0) args s 0 0 (aN NC ad)) (F0 m 32 ls []) := by
  unfold F_X3_fewestDrums_32 at hf
  exact H_X3_fewestDrums_32 a0 a1 a2 l4  G hm ok_a0 ok_a1 ok_a2  fuel (l5, σ) hf _ _ _ w hl
set_option maxRecDepth 100000 in
set_option maxHeartbeats 4000000 in
theorem B_X3_fewestDrums_0 {H : Heap} {locs : List Loc} {ls : Array Slot} {r0 : Int32} {σ0 : hSt} (a0 : Nat) (a1 : Nat) (a2 : Nat) (l3 : Int32) (σ : hSt) (G : Gx p m c cX3_fewestDrums 6 s args RX3 D ay NC ad (aN NC ad)) (hm : meth.sig.returnType = (some .int) ∧ meth.locks = false) (ok_a0 : okr kC NC 3 a0 = true) (ok_a1 : okr kC NC 7 a1 = true) (ok_a2 : okr kC NC 10 a2 = true) (hf : F_X3_fewestDrums a0 a1 a2 l3 σ = some (r0, σ0))  (w : Wd D ay kC NC ad (aN NC ad) s σ H locs) (hl : lv_has ls 6 [(0, .ref (ad a0)), (1, .ref (ad a1)), (2, .ref (ad a2)), (3, .int l3)]) : W p l e (rmK 5 124) s m args below meth c H locs 0 0 (MQ below (cI D ay kC NC ad r0 σ0) args s 0 0 (aN NC ad)) (F0 m 0 ls []) := by
  have k_a0 := okr_in ok_a0
  have k_a1 := okr_in ok_a1
  have k_a2 := okr_in ok_a2
  unfold F_X3_fewestDrums at hf
  refine lv_aload_n G.hx G.hb (dcs_get dec_X3_fewestDrums_0 0 rfl) rfl (lv_at hl 1 rfl) ?_
  obtain ⟨v13, h12, hf⟩ := cB_some hf
  refine a_i (k_VN (As := []) (rest := []) cls7 lb_X7_allHills lv_X7_allHills nm_902 (C_X7_allHills G.2.2.1 a1 σ h12 ok_a1) ⟨(Nat.le_of_ble_eq_true rfl), (Nat.le_of_ble_eq_true rfl)⟩ G w k_a1.1 k_a1.2 rfl rfl hl.1 (Nat.le_of_ble_eq_true rfl) (dcs_get dec_X3_fewestDrums_0 1 rfl) ⟨Nat.le_refl _, Nat.le_refl _⟩) G w (fun H locs w => ?_)
  refine lv_istore (lv' := [(4, .int v13), (0, .ref (ad a0)), (1, .ref (ad a1)), (2, .ref (ad a2)), (3, .int l3)]) G.hx G.hb (dcs_get dec_X3_fewestDrums_0 2 rfl) hl (by decide) rfl (fun ls hl => ?_)
  refine lv_aload_n G.hx G.hb (dcs_get dec_X3_fewestDrums_0 3 rfl) rfl (lv_at hl 1 rfl) ?_
  obtain ⟨z14, e_z14, ok_z14, hf⟩ := cR_some hf
  have k_z14 := okr_in ok_z14
  refine r_getr (k := 2) cls3 fi_3_2.1 fi_3_2.2 q_330 G w k_a0.1 k_a0.2 e_z14 (dcs_get dec_X3_fewestDrums_0 4 rfl) ?_
  refine lv_ldc G.hx G.hb G.hown (G.hts _ q_903) (dcs_get dec_X3_fewestDrums_0 5 rfl) ?_
  obtain ⟨σ16, h15, hf⟩ := cB_some hf
  refine a_v (k_S (As := [.ref (ad z14), .int (1000000 : Int32)]) (rest := []) lb_J7_fill_53178 q_378 q_904 (C_J7_fill_53178 G.2.2.1 z14 (1000000 : Int32) σ h15 ok_z14) ⟨(Nat.le_of_ble_eq_true rfl), (Nat.le_of_ble_eq_true rfl)⟩ G w rfl rfl hl.1 (Nat.le_of_ble_eq_true rfl) (dcs_get dec_X3_fewestDrums_0 6 rfl) ⟨Nat.le_refl _, Nat.le_refl _⟩) G w (fun H locs w => ?_)
  refine lv_aload_n G.hx G.hb (dcs_get dec_X3_fewestDrums_0 7 rfl) rfl (lv_at hl 1 rfl) ?_
  obtain ⟨z17, e_z17, ok_z17, hf⟩ := cR_some hf
  have k_z17 := okr_in ok_z17
  refine r_getr (k := 2) cls3 fi_3_2.1 fi_3_2.2 q_330 G w k_a0.1 k_a0.2 e_z17 (dcs_get dec_X3_fewestDrums_0 8 rfl) ?_
  refine lv_aload_n G.hx G.hb (dcs_get dec_X3_fewestDrums_0 9 rfl) rfl (lv_at hl 3 rfl) ?_
  refine r_getiN (k := 1) cls10 fi_10_1.1 fi_10_1.2 nf_238 G w k_a2.1 k_a2.2 (dcs_get dec_X3_fewestDrums_0 10 rfl) ?_
  refine lv_iload_n G.hx G.hb (dcs_get dec_X3_fewestDrums_0 11 rfl) rfl (lv_at hl 4 rfl) ?_
  obtain ⟨v19, h18, hf⟩ := cB_some hf
  refine a_i (k_SN (As := [.int (σ16.1 a2 1), .int l3]) (rest := [.ref (ad z17)]) lb_X11_rowOf q_829 nm_872 (C_X11_rowOf G.2.2.1 (σ16.1 a2 1) l3 σ16 h18 ) ⟨(Nat.le_of_ble_eq_true rfl), (Nat.le_of_ble_eq_true rfl)⟩ G w rfl rfl hl.1 (Nat.le_of_ble_eq_true rfl) (dcs_get dec_X3_fewestDrums_0 12 rfl) ⟨Nat.le_refl _, Nat.le_refl _⟩) G w (fun H locs w => ?_)
  refine lv_iconst (v := (0 : Int32)) G.hx G.hb (dcs_get dec_X3_fewestDrums_0 13 rfl) (by decide) ?_
  obtain ⟨h20, hf⟩ := cG_some hf
  obtain ⟨σ21, e_σ21, hf⟩ := cL_some hf
  refine r_iast G w k_z17.1 k_z17.2 h20 (dcs_get dec_X3_fewestDrums_0 14 rfl) (fun H locs w => ?_)
  have w := Wd.nm e_σ21 w
  refine lv_iconst (v := (1 : Int32)) G.hx G.hb (dcs_get dec_X3_fewestDrums_0 15 rfl) (by decide) ?_
  refine lv_istore (lv' := [(5, .int (1 : Int32)), (4, .int v13), (0, .ref (ad a0)), (1, .ref (ad a1)), (2, .ref (ad a2)), (3, .int l3)]) G.hx G.hb (dcs_get dec_X3_fewestDrums_0 16 rfl) hl (by decide) rfl (fun ls hl => ?_)
  exact B_X3_fewestDrums_32 a0 a1 a2 v13 (1 : Int32) σ21 G hm ok_a0 ok_a1 ok_a2 hf  w (lv_sub hl [2, 3, 4, 1, 0] rfl)
end
set_option maxRecDepth 100000 in
set_option maxHeartbeats 4000000 in
theorem C_X3_fewestDrums {l : Launch} {D : va_G} {ay : Nat → ClassId} {ad : Nat → Nat} (hi : hInj NC ad) (a0 : Nat) (a1 : Nat) (a2 : Nat) (l3 : Int32) (σ : hSt) {r0 : Int32} {σ0 : hSt} (hf : F_X3_fewestDrums a0 a1 a2 l3 σ = some (r0, σ0)) (ok_a0 : okr kC NC 3 a0 = true) (ok_a1 : okr kC NC 7 a1 = true) (ok_a2 : okr kC NC 10 a2 = true) : hM l D ay kC NC ad yX3_fewestDrums cX3_fewestDrums 6 ((some .int)) (rmK 5 124) [.ref (ad a0), .ref (ad a1), .ref (ad a2), .int l3] σ (cI D ay kC NC ad r0 σ0) := by
  refine hM_in (by decide) hi (Nat.le_of_ble_eq_true rfl) ?_
  intro p e s m below meth c G hm w ls hl
  exact B_X3_fewestDrums_0 a0 a1 a2 l3 σ G hm ok_a0 ok_a1 ok_a2 hf w (lv_sub hl [0, 1, 2, 3] rfl)

/-! HillDrums.Told.add(III)I -/
def DL_X9_add_0 : List (Nat × Instr × Nat) := [(0, .aload_n 0, 1), (1, .getfield 21, 3), (4, .ifCond .lt 12, 3), (7, .aload_n 0, 1), (8, .getfield 21, 3), (11, .bipush 20, 2), (13, .if_icmp .lt 5, 3), (16, .iconst (-1), 1), (17, .ireturn, 1), (18, .aload_n 0, 1), (19, .getfield 9, 3), (22, .aload_n 0, 1), (23, .getfield 21, 3), (26, .iload_n 1, 1), (27, .iastore, 1), (28, .aload_n 0, 1), (29, .getfield 15, 3), (32, .aload_n 0, 1), (33, .getfield 21, 3), (36, .iload_n 2, 1), (37, .iastore, 1), (38, .aload_n 0, 1), (39, .getfield 18, 3), (42, .aload_n 0, 1), (43, .getfield 21, 3), (46, .iload_n 3, 1), (47, .iastore, 1), (48, .aload_n 0, 1), (49, .dup, 1), (50, .getfield 21, 3), (53, .iconst 1, 1), (54, .iadd, 1), (55, .putfield 21, 3), (58, .aload_n 0, 1), (59, .getfield 21, 3), (62, .iconst 1, 1), (63, .isub, 1), (64, .ireturn, 1)]
set_option maxRecDepth 100000 in
theorem dec_X9_add_0 : dcs cX9_add DL_X9_add_0 = true := by decide +kernel
theorem lb_X9_add : lkB yX9_add cX9_add 4 ((some .int)) 3 := ⟨q_951, q_10, ⟨by decide, by decide⟩, by decide +kernel⟩
theorem lv_X9_add : lkV yX9_add := ⟨q_950, qs_61⟩
def F_X9_add_16  (σ : hSt) : Option (Int32 × hSt) :=
some (((-1 : Int32), σ))
def F_X9_add (a0 : Nat) (l1 : Int32) (l2 : Int32) (l3 : Int32) (σ : hSt) : Option (Int32 × hSt) :=
if (σ.1 a0 3) < 0 then (
F_X9_add_16  σ) else (
if (σ.1 a0 3) < (20 : Int32) then (
cR (σ.2.2 a0 0) (okr kC NC 101) fun z1 =>
cG (inb (σ.1 a0 3) (kC z1).2) <|
cL (uI σ z1 (σ.1 a0 3).toNatClampNeg l1) fun σ3 =>
cR (σ3.2.2 a0 1) (okr kC NC 101) fun z4 =>
cG (inb (σ3.1 a0 3) (kC z4).2) <|
cL (uI σ3 z4 (σ3.1 a0 3).toNatClampNeg l2) fun σ6 =>
cR (σ6.2.2 a0 2) (okr kC NC 101) fun z7 =>
cG (inb (σ6.1 a0 3) (kC z7).2) <|
cL (uI σ6 z7 (σ6.1 a0 3).toNatClampNeg l3) fun σ9 =>
cL (uI σ9 a0 3 ((σ9.1 a0 3) + (1 : Int32))) fun σ10 =>
some (((σ10.1 a0 3) - (1 : Int32), σ10))) else (
F_X9_add_16  σ))
section
variable {p : Program} {l : Launch} {e : Env} {s : State} {m : MethodId} {args : Array Value} {below : List Frame} {meth : Method} {c : Code} {D : va_G} {ay : Nat → ClassId} {ad : Nat → Nat}
set_option maxRecDepth 100000 in
set_option maxHeartbeats 4000000 in
theorem B_X9_add_16 {H : Heap} {locs : List Loc} {ls : Array Slot} {r0 : Int32} {σ0 : hSt}  (σ : hSt) (G : Gx p m c cX9_add 4 s args RX9 D ay NC ad (aN NC ad)) (hm : meth.sig.returnType = (some .int) ∧ meth.locks = false)  (hf : F_X9_add_16  σ = some (r0, σ0))  (w : Wd D ay kC NC ad (aN NC ad) s σ H locs) (hl : lv_has ls 4 []) : W p l e (rmK 0 0) s m args below meth c H locs 0 0 (MQ below (cI D ay kC NC ad r0 σ0) args s 0 0 (aN NC ad)) (F0 m 16 ls []) := by
  unfold F_X9_add_16 at hf
  refine lv_iconst (v := (-1 : Int32)) G.hx G.hb (dcs_get dec_X9_add_0 7 rfl) (by decide) ?_
  have e9 := Option.some.inj hf
  exact r_iret G w hm (congrArg Prod.fst e9) (congrArg Prod.snd e9) (dcs_get dec_X9_add_0 8 rfl)
set_option maxRecDepth 100000 in
set_option maxHeartbeats 4000000 in
theorem B_X9_add_0 {H : Heap} {locs : List Loc} {ls : Array Slot} {r0 : Int32} {σ0 : hSt} (a0 : Nat) (l1 : Int32) (l2 : Int32) (l3 : Int32) (σ : hSt) (G : Gx p m c cX9_add 4 s args RX9 D ay NC ad (aN NC ad)) (hm : meth.sig.returnType = (some .int) ∧ meth.locks = false) (ok_a0 : okr kC NC 9 a0 = true) (hf : F_X9_add a0 l1 l2 l3 σ = some (r0, σ0))  (w : Wd D ay kC NC ad (aN NC ad) s σ H locs) (hl : lv_has ls 4 [(0, .ref (ad a0)), (1, .int l1), (2, .int l2), (3, .int l3)]) : W p l e (rmK 0 0) s m args below meth c H locs 0 0 (MQ below (cI D ay kC NC ad r0 σ0) args s 0 0 (aN NC ad)) (F0 m 0 ls []) := by
  have k_a0 := okr_in ok_a0
  unfold F_X9_add at hf
  refine lv_aload_n G.hx G.hb (dcs_get dec_X9_add_0 0 rfl) rfl (lv_at hl 0 rfl) ?_
  refine r_geti (k := 3) cls9 fi_9_3.1 fi_9_3.2 q_311 G w k_a0.1 k_a0.2 (dcs_get dec_X9_add_0 1 rfl) ?_
  refine lv_if_lt (tgt := 16) G.hx G.hb (dcs_get dec_X9_add_0 2 rfl) (by decide) (fun hc => ?_) (fun hc => ?_)
  · rw [if_pos hc] at hf
    exact B_X9_add_16  σ G hm  hf  w (lv_sub hl [] rfl)
  · rw [if_neg hc] at hf
    refine lv_aload_n G.hx G.hb (dcs_get dec_X9_add_0 3 rfl) rfl (lv_at hl 0 rfl) ?_
    refine r_geti (k := 3) cls9 fi_9_3.1 fi_9_3.2 q_311 G w k_a0.1 k_a0.2 (dcs_get dec_X9_add_0 4 rfl) ?_
    refine lv_bipush (v := (20 : Int32)) G.hx G.hb (dcs_get dec_X9_add_0 5 rfl) (by decide) ?_
    refine lv_icmp_lt (tgt := 18) G.hx G.hb (dcs_get dec_X9_add_0 6 rfl) (by decide) (fun hc => ?_) (fun hc => ?_)
    · rw [if_pos hc] at hf
      refine lv_aload_n G.hx G.hb (dcs_get dec_X9_add_0 9 rfl) rfl (lv_at hl 0 rfl) ?_
      obtain ⟨z1, e_z1, ok_z1, hf⟩ := cR_some hf
      have k_z1 := okr_in ok_z1
      refine r_getr (k := 0) cls9 fi_9_0.1 fi_9_0.2 q_308 G w k_a0.1 k_a0.2 e_z1 (dcs_get dec_X9_add_0 10 rfl) ?_
      refine lv_aload_n G.hx G.hb (dcs_get dec_X9_add_0 11 rfl) rfl (lv_at hl 0 rfl) ?_
      refine r_geti (k := 3) cls9 fi_9_3.1 fi_9_3.2 q_311 G w k_a0.1 k_a0.2 (dcs_get dec_X9_add_0 12 rfl) ?_
      refine lv_iload_n G.hx G.hb (dcs_get dec_X9_add_0 13 rfl) rfl (lv_at hl 1 rfl) ?_
      obtain ⟨h2, hf⟩ := cG_some hf
      obtain ⟨σ3, e_σ3, hf⟩ := cL_some hf
      refine r_iast G w k_z1.1 k_z1.2 h2 (dcs_get dec_X9_add_0 14 rfl) (fun H locs w => ?_)
      have w := Wd.nm e_σ3 w
      refine lv_aload_n G.hx G.hb (dcs_get dec_X9_add_0 15 rfl) rfl (lv_at hl 0 rfl) ?_
      obtain ⟨z4, e_z4, ok_z4, hf⟩ := cR_some hf
      have k_z4 := okr_in ok_z4
      refine r_getr (k := 1) cls9 fi_9_1.1 fi_9_1.2 q_309 G w k_a0.1 k_a0.2 e_z4 (dcs_get dec_X9_add_0 16 rfl) ?_
      refine lv_aload_n G.hx G.hb (dcs_get dec_X9_add_0 17 rfl) rfl (lv_at hl 0 rfl) ?_
      refine r_geti (k := 3) cls9 fi_9_3.1 fi_9_3.2 q_311 G w k_a0.1 k_a0.2 (dcs_get dec_X9_add_0 18 rfl) ?_
      refine lv_iload_n G.hx G.hb (dcs_get dec_X9_add_0 19 rfl) rfl (lv_at hl 2 rfl) ?_
      obtain ⟨h5, hf⟩ := cG_some hf
      obtain ⟨σ6, e_σ6, hf⟩ := cL_some hf
      refine r_iast G w k_z4.1 k_z4.2 h5 (dcs_get dec_X9_add_0 20 rfl) (fun H locs w => ?_)
      have w := Wd.nm e_σ6 w
      refine lv_aload_n G.hx G.hb (dcs_get dec_X9_add_0 21 rfl) rfl (lv_at hl 0 rfl) ?_
      obtain ⟨z7, e_z7, ok_z7, hf⟩ := cR_some hf
      have k_z7 := okr_in ok_z7
      refine r_getr (k := 2) cls9 fi_9_2.1 fi_9_2.2 q_310 G w k_a0.1 k_a0.2 e_z7 (dcs_get dec_X9_add_0 22 rfl) ?_
      refine lv_aload_n G.hx G.hb (dcs_get dec_X9_add_0 23 rfl) rfl (lv_at hl 0 rfl) ?_
      refine r_geti (k := 3) cls9 fi_9_3.1 fi_9_3.2 q_311 G w k_a0.1 k_a0.2 (dcs_get dec_X9_add_0 24 rfl) ?_
      refine lv_iload_n G.hx G.hb (dcs_get dec_X9_add_0 25 rfl) rfl (lv_at hl 3 rfl) ?_
      obtain ⟨h8, hf⟩ := cG_some hf
      obtain ⟨σ9, e_σ9, hf⟩ := cL_some hf
      refine r_iast G w k_z7.1 k_z7.2 h8 (dcs_get dec_X9_add_0 26 rfl) (fun H locs w => ?_)
      have w := Wd.nm e_σ9 w
      refine lv_aload_n G.hx G.hb (dcs_get dec_X9_add_0 27 rfl) rfl (lv_at hl 0 rfl) ?_
      refine lv_dup G.hx G.hb (dcs_get dec_X9_add_0 28 rfl) rfl ?_
      refine r_geti (k := 3) cls9 fi_9_3.1 fi_9_3.2 q_311 G w k_a0.1 k_a0.2 (dcs_get dec_X9_add_0 29 rfl) ?_
      refine lv_iconst (v := (1 : Int32)) G.hx G.hb (dcs_get dec_X9_add_0 30 rfl) (by decide) ?_
      refine lv_iadd G.hx G.hb (dcs_get dec_X9_add_0 31 rfl) ?_
      obtain ⟨σ10, e_σ10, hf⟩ := cL_some hf
      refine r_puti (k := 3) cls9 ct9 fi_9_3.1 fi_9_3.2 fp_9_3.1 fp_9_3.2 q_311 rfl rfl G w k_a0.1 k_a0.2 (dcs_get dec_X9_add_0 32 rfl) (fun H locs w => ?_)
      have w := Wd.nm e_σ10 w
      refine lv_aload_n G.hx G.hb (dcs_get dec_X9_add_0 33 rfl) rfl (lv_at hl 0 rfl) ?_
      refine r_geti (k := 3) cls9 fi_9_3.1 fi_9_3.2 q_311 G w k_a0.1 k_a0.2 (dcs_get dec_X9_add_0 34 rfl) ?_
      refine lv_iconst (v := (1 : Int32)) G.hx G.hb (dcs_get dec_X9_add_0 35 rfl) (by decide) ?_
      refine lv_isub G.hx G.hb (dcs_get dec_X9_add_0 36 rfl) ?_
      have e9 := Option.some.inj hf
      exact r_iret G w hm (congrArg Prod.fst e9) (congrArg Prod.snd e9) (dcs_get dec_X9_add_0 37 rfl)
    · rw [if_neg hc] at hf
      exact B_X9_add_16  σ G hm  hf  w (lv_sub hl [] rfl)
end
set_option maxRecDepth 100000 in
set_option maxHeartbeats 4000000 in
theorem C_X9_add {l : Launch} {D : va_G} {ay : Nat → ClassId} {ad : Nat → Nat} (hi : hInj NC ad) (a0 : Nat) (l1 : Int32) (l2 : Int32) (l3 : Int32) (σ : hSt) {r0 : Int32} {σ0 : hSt} (hf : F_X9_add a0 l1 l2 l3 σ = some (r0, σ0)) (ok_a0 : okr kC NC 9 a0 = true) : hM l D ay kC NC ad yX9_add cX9_add 4 ((some .int)) (rmK 0 0) [.ref (ad a0), .int l1, .int l2, .int l3] σ (cI D ay kC NC ad r0 σ0) := by
  refine hM_in (by decide) hi (Nat.le_of_ble_eq_true rfl) ?_
  intro p e s m below meth c G hm w ls hl
  exact B_X9_add_0 a0 l1 l2 l3 σ G hm ok_a0 hf w (lv_sub hl [0, 1, 2, 3] rfl)

/-! HillDrums.Told.daysNeeded(II)I -/
def DL_X9_daysNeeded_0 : List (Nat × Instr × Nat) := [(0, .iconst 0, 1), (1, .istore_n 3, 1), (2, .iconst 0, 1), (3, .istore 4, 2), (5, .iload 4, 2), (7, .iload_n 2, 1), (8, .if_icmp .ge 41, 3), (11, .iload 4, 2), (13, .bipush 20, 2), (15, .if_icmp .ge 34, 3), (18, .aload_n 0, 1), (19, .getfield 15, 3), (22, .iload 4, 2), (24, .iaload, 1), (25, .iload_n 1, 1), (26, .if_icmp .ne 17, 3), (29, .iload_n 3, 1), (30, .aload_n 0, 1), (31, .getfield 18, 3), (34, .iload 4, 2), (36, .iaload, 1), (37, .iconst 1, 1), (38, .iadd, 1), (39, .invokestatic 25, 3), (42, .istore_n 3, 1), (43, .iinc 4 1, 3), (46, .goto (-41), 3), (49, .iload_n 3, 1), (50, .ireturn, 1)]
set_option maxRecDepth 100000 in
theorem dec_X9_daysNeeded_0 : dcs cX9_daysNeeded DL_X9_daysNeeded_0 = true := by decide +kernel
theorem lb_X9_daysNeeded : lkB yX9_daysNeeded cX9_daysNeeded 5 ((some .int)) 2 := ⟨q_963, q_10, ⟨by decide, by decide⟩, by decide +kernel⟩
theorem lv_X9_daysNeeded : lkV yX9_daysNeeded := ⟨q_962, qs_62⟩
def F_X9_daysNeeded_43 (a0 : Nat) (l1 : Int32) (l2 : Int32) (l3 : Int32) (l4 : Int32) (σ : hSt) : Option ((Int32 × Int32) ⊕ (Int32)) :=
cL (l4 + (1 : Int32)) fun v1 =>
some (.inl (l3, v1))
def F_X9_daysNeeded_49 (l3 : Int32) (σ : hSt) : Option (Int32) :=
some (l3)
def F_X9_daysNeeded_5b (a0 : Nat) (l1 : Int32) (l2 : Int32) (l3 : Int32) (l4 : Int32) (σ : hSt) : Option ((Int32 × Int32) ⊕ (Int32)) :=
if l2 ≤ l4 then (
(F_X9_daysNeeded_49 l3 σ).map (fun x => .inr (x))) else (
if (20 : Int32) ≤ l4 then (
(F_X9_daysNeeded_49 l3 σ).map (fun x => .inr (x))) else (
cR (σ.2.2 a0 1) (okr kC NC 101) fun z2 =>
cG (inb l4 (kC z2).2) <|
if (σ.1 z2 l4.toNatClampNeg) = l1 then (
cR (σ.2.2 a0 2) (okr kC NC 101) fun z4 =>
cG (inb l4 (kC z4).2) <|
cL (if l3 < ((σ.1 z4 l4.toNatClampNeg) + (1 : Int32)) then ((σ.1 z4 l4.toNatClampNeg) + (1 : Int32)) else l3) fun v6 =>
F_X9_daysNeeded_43 a0 l1 l2 v6 l4 σ) else (
F_X9_daysNeeded_43 a0 l1 l2 l3 l4 σ)))
def S_X9_daysNeeded_5 (a0 : Nat) (l1 : Int32) (l2 : Int32) (σ : hSt) (v : Int32 × Int32) : Option ((Int32 × Int32) ⊕ (Int32)) := F_X9_daysNeeded_5b a0 l1 l2 v.1 v.2 σ
def F_X9_daysNeeded_5 (a0 : Nat) (l1 : Int32) (l2 : Int32) (l3 : Int32) (l4 : Int32) (σ : hSt) : Option (Int32) := lp (S_X9_daysNeeded_5 a0 l1 l2 σ) fuel (l3, l4)
def F_X9_daysNeeded (a0 : Nat) (l1 : Int32) (l2 : Int32) (σ : hSt) : Option (Int32) :=
F_X9_daysNeeded_5 a0 l1 l2 (0 : Int32) (0 : Int32) σ
section
variable {p : Program} {l : Launch} {e : Env} {s : State} {m : MethodId} {args : Array Value} {below : List Frame} {meth : Method} {c : Code} {D : va_G} {ay : Nat → ClassId} {ad : Nat → Nat}
set_option maxRecDepth 100000 in
set_option maxHeartbeats 4000000 in
theorem B_X9_daysNeeded_43 {H : Heap} {locs : List Loc} {ls : Array Slot} {r0 : Int32} {o : (Int32 × Int32) ⊕ (Int32)} (a0 : Nat) (l1 : Int32) (l2 : Int32) (l3 : Int32) (l4 : Int32) (σ : hSt) (G : Gx p m c cX9_daysNeeded 5 s args RX9 D ay NC ad (aN NC ad)) (hm : meth.sig.returnType = (some .int) ∧ meth.locks = false) (ok_a0 : okr kC NC 9 a0 = true) (hf : F_X9_daysNeeded_43 a0 l1 l2 l3 l4 σ = some o) (hb0 : ∀ (v : Int32 × Int32), o = .inl v → ∀ (H : Heap) (locs : List Loc) (ls : Array Slot), Wd D ay kC NC ad (aN NC ad) s σ H locs → lv_has ls 5 [(0, .ref (ad a0)), (1, .int l1), (2, .int l2), (3, .int v.1), (4, .int v.2)] → W p l e (rmK 1 21) s m args below meth c H locs 0 0 (MQ below (cI D ay kC NC ad r0 σ) args s 0 0 (aN NC ad)) (F0 m 5 ls [])) (hr : ∀ x, o = .inr (x) → x = r0) (w : Wd D ay kC NC ad (aN NC ad) s σ H locs) (hl : lv_has ls 5 [(0, .ref (ad a0)), (1, .int l1), (2, .int l2), (3, .int l3), (4, .int l4)]) : W p l e (rmK 1 21) s m args below meth c H locs 0 0 (MQ below (cI D ay kC NC ad r0 σ) args s 0 0 (aN NC ad)) (F0 m 43 ls []) := by
  have k_a0 := okr_in ok_a0
  unfold F_X9_daysNeeded_43 at hf
  obtain ⟨v1, e_v1, hf⟩ := cL_some hf
  refine lv_iinc (v := v1) (lv' := [(4, .int v1), (0, .ref (ad a0)), (1, .int l1), (2, .int l2), (3, .int l3)]) G.hx G.hb (dcs_get dec_X9_daysNeeded_0 25 rfl) hl (k := 4) rfl (by rw [e_v1]; rfl) (by decide) rfl (fun ls hl => ?_)
  refine lv_goto (tgt := 5) G.hx G.hb (dcs_get dec_X9_daysNeeded_0 26 rfl) (by decide) ?_
  exact hb0 _ (Option.some.inj hf).symm _ _ _ w (lv_sub hl [1, 2, 3, 4, 0] rfl)
set_option maxRecDepth 100000 in
set_option maxHeartbeats 4000000 in
theorem B_X9_daysNeeded_49 {H : Heap} {locs : List Loc} {ls : Array Slot} {r0 : Int32} (l3 : Int32) (σ : hSt) (G : Gx p m c cX9_daysNeeded 5 s args RX9 D ay NC ad (aN NC ad)) (hm : meth.sig.returnType = (some .int) ∧ meth.locks = false)  (hf : F_X9_daysNeeded_49 l3 σ = some r0)  (w : Wd D ay kC NC ad (aN NC ad) s σ H locs) (hl : lv_has ls 5 [(3, .int l3)]) : W p l e (rmK 1 21) s m args below meth c H locs 0 0 (MQ below (cI D ay kC NC ad r0 σ) args s 0 0 (aN NC ad)) (F0 m 49 ls []) := by
  unfold F_X9_daysNeeded_49 at hf
  refine lv_iload_n G.hx G.hb (dcs_get dec_X9_daysNeeded_0 27 rfl) rfl (lv_at hl 0 rfl) ?_
  have e9 := Option.some.inj hf
  exact r_iret G w hm e9 rfl (dcs_get dec_X9_daysNeeded_0 28 rfl)
set_option maxRecDepth 100000 in
set_option maxHeartbeats 4000000 in
theorem B_X9_daysNeeded_5b {H : Heap} {locs : List Loc} {ls : Array Slot} {r0 : Int32} {o : (Int32 × Int32) ⊕ (Int32)} (a0 : Nat) (l1 : Int32) (l2 : Int32) (l3 : Int32) (l4 : Int32) (σ : hSt) (G : Gx p m c cX9_daysNeeded 5 s args RX9 D ay NC ad (aN NC ad)) (hm : meth.sig.returnType = (some .int) ∧ meth.locks = false) (ok_a0 : okr kC NC 9 a0 = true) (hf : F_X9_daysNeeded_5b a0 l1 l2 l3 l4 σ = some o) (hb0 : ∀ (v : Int32 × Int32), o = .inl v → ∀ (H : Heap) (locs : List Loc) (ls : Array Slot), Wd D ay kC NC ad (aN NC ad) s σ H locs → lv_has ls 5 [(0, .ref (ad a0)), (1, .int l1), (2, .int l2), (3, .int v.1), (4, .int v.2)] → W p l e (rmK 1 21) s m args below meth c H locs 0 0 (MQ below (cI D ay kC NC ad r0 σ) args s 0 0 (aN NC ad)) (F0 m 5 ls [])) (hr : ∀ x, o = .inr (x) → x = r0) (w : Wd D ay kC NC ad (aN NC ad) s σ H locs) (hl : lv_has ls 5 [(0, .ref (ad a0)), (1, .int l1), (2, .int l2), (3, .int l3), (4, .int l4)]) : W p l e (rmK 1 21) s m args below meth c H locs 0 0 (MQ below (cI D ay kC NC ad r0 σ) args s 0 0 (aN NC ad)) (F0 m 5 ls []) := by
  have k_a0 := okr_in ok_a0
  unfold F_X9_daysNeeded_5b at hf
  refine lv_iload G.hx G.hb (dcs_get dec_X9_daysNeeded_0 4 rfl) (lv_at hl 4 rfl) ?_
  refine lv_iload_n G.hx G.hb (dcs_get dec_X9_daysNeeded_0 5 rfl) rfl (lv_at hl 2 rfl) ?_
  refine lv_icmp_ge (tgt := 49) G.hx G.hb (dcs_get dec_X9_daysNeeded_0 6 rfl) (by decide) (fun hc => ?_) (fun hc => ?_)
  · rw [if_pos hc] at hf
    obtain ⟨x9, h9, e9⟩ := map_some_inv hf
    subst e9
    have e8 := hr _ rfl
    rw [e8] at h9
    exact B_X9_daysNeeded_49 l3 σ G hm  h9 w (lv_sub hl [3] rfl)
  · rw [if_neg hc] at hf
    refine lv_iload G.hx G.hb (dcs_get dec_X9_daysNeeded_0 7 rfl) (lv_at hl 4 rfl) ?_
    refine lv_bipush (v := (20 : Int32)) G.hx G.hb (dcs_get dec_X9_daysNeeded_0 8 rfl) (by decide) ?_
    refine lv_icmp_ge (tgt := 49) G.hx G.hb (dcs_get dec_X9_daysNeeded_0 9 rfl) (by decide) (fun hc => ?_) (fun hc => ?_)
    · rw [if_pos hc] at hf
      obtain ⟨x9, h9, e9⟩ := map_some_inv hf
      subst e9
      have e8 := hr _ rfl
      rw [e8] at h9
      exact B_X9_daysNeeded_49 l3 σ G hm  h9 w (lv_sub hl [3] rfl)
    · rw [if_neg hc] at hf
      refine lv_aload_n G.hx G.hb (dcs_get dec_X9_daysNeeded_0 10 rfl) rfl (lv_at hl 0 rfl) ?_
      obtain ⟨z2, e_z2, ok_z2, hf⟩ := cR_some hf
      have k_z2 := okr_in ok_z2
      refine r_getr (k := 1) cls9 fi_9_1.1 fi_9_1.2 q_309 G w k_a0.1 k_a0.2 e_z2 (dcs_get dec_X9_daysNeeded_0 11 rfl) ?_
      refine lv_iload G.hx G.hb (dcs_get dec_X9_daysNeeded_0 12 rfl) (lv_at hl 4 rfl) ?_
      obtain ⟨h3, hf⟩ := cG_some hf
      refine r_iald G w k_z2.1 k_z2.2 h3 (dcs_get dec_X9_daysNeeded_0 13 rfl) ?_
      refine lv_iload_n G.hx G.hb (dcs_get dec_X9_daysNeeded_0 14 rfl) rfl (lv_at hl 1 rfl) ?_
      refine lv_icmp_ne (tgt := 43) G.hx G.hb (dcs_get dec_X9_daysNeeded_0 15 rfl) (by decide) (fun hc => ?_) (fun hc => ?_)
      · rw [if_neg hc] at hf
        exact B_X9_daysNeeded_43 a0 l1 l2 l3 l4 σ G hm ok_a0 hf hb0 hr w (lv_sub hl [0, 1, 2, 3, 4] rfl)
      · rw [if_pos hc] at hf
        refine lv_iload_n G.hx G.hb (dcs_get dec_X9_daysNeeded_0 16 rfl) rfl (lv_at hl 3 rfl) ?_
        refine lv_aload_n G.hx G.hb (dcs_get dec_X9_daysNeeded_0 17 rfl) rfl (lv_at hl 0 rfl) ?_
        obtain ⟨z4, e_z4, ok_z4, hf⟩ := cR_some hf
        have k_z4 := okr_in ok_z4
        refine r_getr (k := 2) cls9 fi_9_2.1 fi_9_2.2 q_310 G w k_a0.1 k_a0.2 e_z4 (dcs_get dec_X9_daysNeeded_0 18 rfl) ?_
        refine lv_iload G.hx G.hb (dcs_get dec_X9_daysNeeded_0 19 rfl) (lv_at hl 4 rfl) ?_
        obtain ⟨h5, hf⟩ := cG_some hf
        refine r_iald G w k_z4.1 k_z4.2 h5 (dcs_get dec_X9_daysNeeded_0 20 rfl) ?_
        refine lv_iconst (v := (1 : Int32)) G.hx G.hb (dcs_get dec_X9_daysNeeded_0 21 rfl) (by decide) ?_
        refine lv_iadd G.hx G.hb (dcs_get dec_X9_daysNeeded_0 22 rfl) ?_
        refine r_max q_964 q_554 q_19 q_555 ⟨(Nat.le_of_ble_eq_true rfl), (Nat.le_of_ble_eq_true rfl)⟩ ⟨Nat.le_refl _, Nat.le_refl _⟩ G hl.1 (dcs_get dec_X9_daysNeeded_0 23 rfl) ?_
        obtain ⟨v6, e_v6, hf⟩ := cL_some hf
        refine r_topi e_v6 ?_
        refine lv_istore_n (lv' := [(3, .int v6), (0, .ref (ad a0)), (1, .int l1), (2, .int l2), (4, .int l4)]) G.hx G.hb (dcs_get dec_X9_daysNeeded_0 24 rfl) rfl hl (by decide) rfl (fun ls hl => ?_)
        exact B_X9_daysNeeded_43 a0 l1 l2 v6 l4 σ G hm ok_a0 hf hb0 hr w (lv_sub hl [1, 2, 3, 0, 4] rfl)
set_option maxRecDepth 100000 in
set_option maxHeartbeats 4000000 in
theorem H_X9_daysNeeded_5 {r0 : Int32} (a0 : Nat) (l1 : Int32) (l2 : Int32) (σ : hSt) (G : Gx p m c cX9_daysNeeded 5 s args RX9 D ay NC ad (aN NC ad)) (hm : meth.sig.returnType = (some .int) ∧ meth.locks = false) (ok_a0 : okr kC NC 9 a0 = true)  : ∀ (k : Nat) (v : Int32 × Int32), lp (S_X9_daysNeeded_5 a0 l1 l2 σ) k v = some r0 → ∀ (H : Heap) (locs : List Loc) (ls : Array Slot), Wd D ay kC NC ad (aN NC ad) s σ H locs → lv_has ls 5 [(0, .ref (ad a0)), (1, .int l1), (2, .int l2), (3, .int v.1), (4, .int v.2)] → W p l e (rmK 1 21) s m args below meth c H locs 0 0 (MQ below (cI D ay kC NC ad r0 σ) args s 0 0 (aN NC ad)) (F0 m 5 ls []) := by
  intro k
  induction k with
  | zero => intro v hf; cases hf
  | succ k ih =>
    intro v hf H locs ls w hl
    obtain ⟨o1, h1, h2, h3⟩ := lp_some hf
    exact B_X9_daysNeeded_5b a0 l1 l2 v.1 v.2 σ G hm ok_a0 h1  (fun v' e => ih v' (h2 v' e)) (fun x e => h3 x e) w hl
set_option maxRecDepth 100000 in
set_option maxHeartbeats 4000000 in
theorem B_X9_daysNeeded_5 {H : Heap} {locs : List Loc} {ls : Array Slot} {r0 : Int32} (a0 : Nat) (l1 : Int32) (l2 : Int32) (l3 : Int32) (l4 : Int32) (σ : hSt) (G : Gx p m c cX9_daysNeeded 5 s args RX9 D ay NC ad (aN NC ad)) (hm : meth.sig.returnType = (some .int) ∧ meth.locks = false) (ok_a0 : okr kC NC 9 a0 = true) (hf : F_X9_daysNeeded_5 a0 l1 l2 l3 l4 σ = some r0)  (w : Wd D ay kC NC ad (aN NC ad) s σ H locs) (hl : lv_has ls 5 [(0, .ref (ad a0)), (1, .int l1), (2, .int l2), (3, .int l3), (4, .int l4)]) : W p l e (rmK 1 21) s m args below meth c H locs 0 0 (MQ below (cI D ay kC NC ad r0 σ) args s 0 0 (aN NC ad)) (F0 m 5 ls []) := by
  unfold F_X9_daysNeeded_5 at hf
  exact H_X9_daysNeeded_5 a0 l1 l2 σ G hm ok_a0  fuel (l3, l4) hf _ _ _ w hl
set_option maxRecDepth 100000 in
set_option maxHeartbeats 4000000 in
theorem B_X9_daysNeeded_0 {H : Heap} {locs : List Loc} {ls : Array Slot} {r0 : Int32} (a0 : Nat) (l1 : Int32) (l2 : Int32) (σ : hSt) (G : Gx p m c cX9_daysNeeded 5 s args RX9 D ay NC ad (aN NC ad)) (hm : meth.sig.returnType = (some .int) ∧ meth.locks = false) (ok_a0 : okr kC NC 9 a0 = true) (hf : F_X9_daysNeeded a0 l1 l2 σ = some r0)  (w : Wd D ay kC NC ad (aN NC ad) s σ H locs) (hl : lv_has ls 5 [(0, .ref (ad a0)), (1, .int l1), (2, .int l2)]) : W p l e (rmK 1 21) s m args below meth c H locs 0 0 (MQ below (cI D ay kC NC ad r0 σ) args s 0 0 (aN NC ad)) (F0 m 0 ls []) := by
  have k_a0 := okr_in ok_a0
  unfold F_X9_daysNeeded at hf
  refine lv_iconst (v := (0 : Int32)) G.hx G.hb (dcs_get dec_X9_daysNeeded_0 0 rfl) (by decide) ?_
  refine lv_istore_n (lv' := [(3, .int (0 : Int32)), (0, .ref (ad a0)), (1, .int l1), (2, .int l2)]) G.hx G.hb (dcs_get dec_X9_daysNeeded_0 1 rfl) rfl hl (by decide) rfl (fun ls hl => ?_)
  refine lv_iconst (v := (0 : Int32)) G.hx G.hb (dcs_get dec_X9_daysNeeded_0 2 rfl) (by decide) ?_
  refine lv_istore (lv' := [(4, .int (0 : Int32)), (3, .int (0 : Int32)), (0, .ref (ad a0)), (1, .int l1), (2, .int l2)]) G.hx G.hb (dcs_get dec_X9_daysNeeded_0 3 rfl) hl (by decide) rfl (fun ls hl => ?_)
  exact B_X9_daysNeeded_5 a0 l1 l2 (0 : Int32) (0 : Int32) σ G hm ok_a0 hf  w (lv_sub hl [2, 3, 4, 1, 0] rfl)
end
set_option maxRecDepth 100000 in
set_option maxHeartbeats 4000000 in
theorem C_X9_daysNeeded {l : Launch} {D : va_G} {ay : Nat → ClassId} {ad : Nat → Nat} (hi : hInj NC ad) (a0 : Nat) (l1 : Int32) (l2 : Int32) (σ : hSt) {r0 : Int32} (hf : F_X9_daysNeeded a0 l1 l2 σ = some r0) (ok_a0 : okr kC NC 9 a0 = true) : hM l D ay kC NC ad yX9_daysNeeded cX9_daysNeeded 5 ((some .int)) (rmK 1 21) [.ref (ad a0), .int l1, .int l2] σ (cI D ay kC NC ad r0 σ) := by
  refine hM_in (by decide) hi (Nat.le_of_ble_eq_true rfl) ?_
  intro p e s m below meth c G hm w ls hl
  exact B_X9_daysNeeded_0 a0 l1 l2 σ G hm ok_a0 hf w (lv_sub hl [0, 1, 2] rfl)

/-! HillDrums.Told.isSo(LHillDrums$World;II)Z -/
def DL_X9_isSo_0 : List (Nat × Instr × Nat) := [(0, .iconst 0, 1), (1, .istore 4, 2), (3, .iload 4, 2), (5, .iload_n 3, 1), (6, .if_icmp .ge 74, 3), (9, .iload 4, 2), (11, .bipush 20, 2), (13, .if_icmp .ge 67, 3), (16, .aload_n 0, 1), (17, .getfield 15, 3), (20, .iload 4, 2), (22, .iaload, 1), (23, .iload_n 2, 1), (24, .if_icmp .ne 50, 3), (27, .aload_n 0, 1), (28, .getfield 9, 3), (31, .iload 4, 2), (33, .iaload, 1), (34, .iload_n 2, 1), (35, .invokestatic 31, 3), (38, .istore 5, 2), (40, .aload_n 1, 1), (41, .aload_n 0, 1), (42, .getfield 9, 3), (45, .iload 4, 2), (47, .iaload, 1), (48, .iload_n 2, 1), (49, .invokevirtual 34, 3), (52, .ifCond .eq 20, 3), (55, .aload_n 1, 1), (56, .getfield 40, 3), (59, .iload 5, 2), (61, .iaload, 1), (62, .aload_n 0, 1), (63, .getfield 18, 3), (66, .iload 4, 2), (68, .iaload, 1), (69, .if_icmp .eq 5, 3), (72, .iconst 0, 1), (73, .ireturn, 1)]
set_option maxRecDepth 100000 in
theorem dec_X9_isSo_0 : dcs cX9_isSo DL_X9_isSo_0 = true := by decide +kernel
def DL_X9_isSo_1 : List (Nat × Instr × Nat) := [(74, .iinc 4 1, 3), (77, .goto (-74), 3), (80, .iconst 1, 1), (81, .ireturn, 1)]
set_option maxRecDepth 100000 in
theorem dec_X9_isSo_1 : dcs cX9_isSo DL_X9_isSo_1 = true := by decide +kernel
theorem lb_X9_isSo : lkB yX9_isSo cX9_isSo 6 ((some .boolean)) 3 := ⟨q_969, q_10, ⟨by decide, by decide⟩, by decide +kernel⟩
theorem lv_X9_isSo : lkV yX9_isSo := ⟨q_968, qs_63⟩
def F_X9_isSo_72  (σ : hSt) : Option (Int32) :=
some ((0 : Int32))
def F_X9_isSo_74 (a0 : Nat) (a1 : Nat) (l2 : Int32) (l3 : Int32) (l4 : Int32) (σ : hSt) : Option ((Int32) ⊕ (Int32)) :=
cL (l4 + (1 : Int32)) fun v1 =>
some (.inl (v1))
def F_X9_isSo_80  (σ : hSt) : Option (Int32) :=
some ((1 : Int32))
def F_X9_isSo_3b (a0 : Nat) (a1 : Nat) (l2 : Int32) (l3 : Int32) (l4 : Int32) (σ : hSt) : Option ((Int32) ⊕ (Int32)) :=
if l3 ≤ l4 then (
(F_X9_isSo_80  σ).map (fun x => .inr (x))) else (
if (20 : Int32) ≤ l4 then (
(F_X9_isSo_80  σ).map (fun x => .inr (x))) else (
cR (σ.2.2 a0 1) (okr kC NC 101) fun z2 =>
cG (inb l4 (kC z2).2) <|
if (σ.1 z2 l4.toNatClampNeg) = l2 then (
cR (σ.2.2 a0 0) (okr kC NC 101) fun z4 =>
cG (inb l4 (kC z4).2) <|
(F_X11_pairOf (σ.1 z4 l4.toNatClampNeg) l2 σ).bind fun v7 =>
cR (σ.2.2 a0 0) (okr kC NC 101) fun z8 =>
cG (inb l4 (kC z8).2) <|
(F_X10_knows a1 (σ.1 z8 l4.toNatClampNeg) l2 σ).bind fun v11 =>
if v11 = 0 then (
(F_X9_isSo_72  σ).map (fun x => .inr (x))) else (
cR (σ.2.2 a1 9) (okr kC NC 101) fun z12 =>
cG (inb v7 (kC z12).2) <|
cR (σ.2.2 a0 2) (okr kC NC 101) fun z14 =>
cG (inb l4 (kC z14).2) <|
if (σ.1 z12 v7.toNatClampNeg) = (σ.1 z14 l4.toNatClampNeg) then (
F_X9_isSo_74 a0 a1 l2 l3 l4 σ) else (
(F_X9_isSo_72  σ).map (fun x => .inr (x))))) else (
F_X9_isSo_74 a0 a1 l2 l3 l4 σ)))
def S_X9_isSo_3 (a0 : Nat) (a1 : Nat) (l2 : Int32) (l3 : Int32) (σ : hSt) (v : Int32) : Option ((Int32) ⊕ (Int32)) := F_X9_isSo_3b a0 a1 l2 l3 v σ
def F_X9_isSo_3 (a0 : Nat) (a1 : Nat) (l2 : Int32) (l3 : Int32) (l4 : Int32) (σ : hSt) : Option (Int32) := lp (S_X9_isSo_3 a0 a1 l2 l3 σ) fuel (l4)
def F_X9_isSo (a0 : Nat) (a1 : Nat) (l2 : Int32) (l3 : Int32) (σ : hSt) : Option (Int32) :=
F_X9_isSo_3 a0 a1 l2 l3 (0 : Int32) σ
section
variable {p : Program} {l : Launch} {e : Env} {s : State} {m : MethodId} {args : Array Value} {below : List Frame} {meth : Method} {c : Code} {D : va_G} {ay : Nat → ClassId} {ad : Nat → Nat}
set_option maxRecDepth 100000 in
set_option maxHeartbeats 4000000 in
theorem B_X9_isSo_72 {H : Heap} {locs : List Loc} {ls : Array Slot} {r0 : Int32}  (σ : hSt) (G : Gx p m c cX9_isSo 6 s args RX9 D ay NC ad (aN NC ad)) (hm : meth.sig.returnType = (some .boolean) ∧ meth.locks = false)  (hf : F_X9_isSo_72  σ = some r0)  (w : Wd D ay kC NC ad (aN NC ad) s σ H locs) (hl : lv_has ls 6 []) : W p l e (rmK 2 43) s m args below meth c H locs 0 0 (MQ below (cI D ay kC NC ad r0 σ) args s 0 0 (aN NC ad)) (F0 m 72 ls []) := by
  unfold F_X9_isSo_72 at hf
  refine lv_iconst (v := (0 : Int32)) G.hx G.hb (dcs_get dec_X9_isSo_0 38 rfl) (by decide) ?_
  have e9 := Option.some.inj hf
  exact r_zret rfl G w hm e9 rfl (dcs_get dec_X9_isSo_0 39 rfl)
set_option maxRecDepth 100000 in
set_option maxHeartbeats 4000000 in
theorem B_X9_isSo_74 {H : Heap} {locs : List Loc} {ls : Array Slot} {r0 : Int32} {o : (Int32) ⊕ (Int32)} (a0 : Nat) (a1 : Nat) (l2 : Int32) (l3 : Int32) (l4 : Int32) (σ : hSt) (G : Gx p m c cX9_isSo 6 s args RX9 D ay NC ad (aN NC ad)) (hm : meth.sig.returnType = (some .boolean) ∧ meth.locks = false) (ok_a0 : okr kC NC 9 a0 = true) (ok_a1 : okr kC NC 10 a1 = true) (hf : F_X9_isSo_74 a0 a1 l2 l3 l4 σ = some o) (hb0 : ∀ (v : Int32), o = .inl v → ∀ (H : Heap) (locs : List Loc) (ls : Array Slot), Wd D ay kC NC ad (aN NC ad) s σ H locs → lv_has ls 6 [(0, .ref (ad a0)), (1, .ref (ad a1)), (2, .int l2), (3, .int l3), (4, .int v)] → W p l e (rmK 2 43) s m args below meth c H locs 0 0 (MQ below (cI D ay kC NC ad r0 σ) args s 0 0 (aN NC ad)) (F0 m 3 ls [])) (hr : ∀ x, o = .inr (x) → x = r0) (w : Wd D ay kC NC ad (aN NC ad) s σ H locs) (hl : lv_has ls 6 [(0, .ref (ad a0)), (1, .ref (ad a1)), (2, .int l2), (3, .int l3), (4, .int l4)]) : W p l e (rmK 2 43) s m args below meth c H locs 0 0 (MQ below (cI D ay kC NC ad r0 σ) args s 0 0 (aN NC ad)) (F0 m 74 ls []) := by
  have k_a0 := okr_in ok_a0
  have k_a1 := okr_in ok_a1
  unfold F_X9_isSo_74 at hf
  obtain ⟨v1, e_v1, hf⟩ := cL_some hf
  refine lv_iinc (v := v1) (lv' := [(4, .int v1), (0, .ref (ad a0)), (1, .ref (ad a1)), (2, .int l2), (3, .int l3)]) G.hx G.hb (dcs_get dec_X9_isSo_1 0 rfl) hl (k := 4) rfl (by rw [e_v1]; rfl) (by decide) rfl (fun ls hl => ?_)
  refine lv_goto (tgt := 3) G.hx G.hb (dcs_get dec_X9_isSo_1 1 rfl) (by decide) ?_
  exact hb0 _ (Option.some.inj hf).symm _ _ _ w (lv_sub hl [1, 2, 3, 4, 0] rfl)
set_option maxRecDepth 100000 in
set_option maxHeartbeats 4000000 in
theorem B_X9_isSo_80 {H : Heap} {locs : List Loc} {ls : Array Slot} {r0 : Int32}  (σ : hSt) (G : Gx p m c cX9_isSo 6 s args RX9 D ay NC ad (aN NC ad)) (hm : meth.sig.returnType = (some .boolean) ∧ meth.locks = false)  (hf : F_X9_isSo_80  σ = some r0)  (w : Wd D ay kC NC ad (aN NC ad) s σ H locs) (hl : lv_has ls 6 []) : W p l e (rmK 2 43) s m args below meth c H locs 0 0 (MQ below (cI D ay kC NC ad r0 σ) args s 0 0 (aN NC ad)) (F0 m 80 ls []) := by
  unfold F_X9_isSo_80 at hf
  refine lv_iconst (v := (1 : Int32)) G.hx G.hb (dcs_get dec_X9_isSo_1 2 rfl) (by decide) ?_
  have e9 := Option.some.inj hf
  exact r_zret rfl G w hm e9 rfl (dcs_get dec_X9_isSo_1 3 rfl)
set_option maxRecDepth 100000 in
set_option maxHeartbeats 4000000 in
theorem B_X9_isSo_3b {H : Heap} {locs : List Loc} {ls : Array Slot} {r0 : Int32} {o : (Int32) ⊕ (Int32)} (a0 : Nat) (a1 : Nat) (l2 : Int32) (l3 : Int32) (l4 : Int32) (σ : hSt) (G : Gx p m c cX9_isSo 6 s args RX9 D ay NC ad (aN NC ad)) (hm : meth.sig.returnType = (some .boolean) ∧ meth.locks = false) (ok_a0 : okr kC NC 9 a0 = true) (ok_a1 : okr kC NC 10 a1 = true) (hf : F_X9_isSo_3b a0 a1 l2 l3 l4 σ = some o) (hb0 : ∀ (v : Int32), o = .inl v → ∀ (H : Heap) (locs : List Loc) (ls : Array Slot), Wd D ay kC NC ad (aN NC ad) s σ H locs → lv_has ls 6 [(0, .ref (ad a0)), (1, .ref (ad a1)), (2, .int l2), (3, .int l3), (4, .int v)] → W p l e (rmK 2 43) s m args below meth c H locs 0 0 (MQ below (cI D ay kC NC ad r0 σ) args s 0 0 (aN NC ad)) (F0 m 3 ls [])) (hr : ∀ x, o = .inr (x) → x = r0) (w : Wd D ay kC NC ad (aN NC ad) s σ H locs) (hl : lv_has ls 6 [(0, .ref (ad a0)), (1, .ref (ad a1)), (2, .int l2), (3, .int l3), (4, .int l4)]) : W p l e (rmK 2 43) s m args below meth c H locs 0 0 (MQ below (cI D ay kC NC ad r0 σ) args s 0 0 (aN NC ad)) (F0 m 3 ls []) := by
  have k_a0 := okr_in ok_a0
  have k_a1 := okr_in ok_a1
  unfold F_X9_isSo_3b at hf
  refine lv_iload G.hx G.hb (dcs_get dec_X9_isSo_0 2 rfl) (lv_at hl 4 rfl) ?_
  refine lv_iload_n G.hx G.hb (dcs_get dec_X9_isSo_0 3 rfl) rfl (lv_at hl 3 rfl) ?_
  refine lv_icmp_ge (tgt := 80) G.hx G.hb (dcs_get dec_X9_isSo_0 4 rfl) (by decide) (fun hc => ?_) (fun hc => ?_)
  · rw [if_pos hc] at hf
    obtain ⟨x9, h9, e9⟩ := map_some_inv hf
    subst e9
    have e8 := hr _ rfl
    rw [e8] at h9
    exact B_X9_isSo_80  σ G hm  h9 w (lv_sub hl [] rfl)
  · rw [if_neg hc] at hf
    refine lv_iload G.hx G.hb (dcs_get dec_X9_isSo_0 5 rfl) (lv_at hl 4 rfl) ?_
    refine lv_bipush (v := (20 : Int32)) G.hx G.hb (dcs_get dec_X9_isSo_0 6 rfl) (by decide) ?_
    refine lv_icmp_ge (tgt := 80) G.hx G.hb (dcs_get dec_X9_isSo_0 7 rfl) (by decide) (fun hc => ?_) (fun hc => ?_)
    · rw [if_pos hc] at hf
      obtain ⟨x9, h9, e9⟩ := map_some_inv hf
      subst e9
      have e8 := hr _ rfl
      rw [e8] at h9
      exact B_X9_isSo_80  σ G hm  h9 w (lv_sub hl [] rfl)
    · rw [if_neg hc] at hf
      refine lv_aload_n G.hx G.hb (dcs_get dec_X9_isSo_0 8 rfl) rfl (lv_at hl 0 rfl) ?_
      obtain ⟨z2, e_z2, ok_z2, hf⟩ := cR_some hf
      have k_z2 := okr_in ok_z2
      refine r_getr (k := 1) cls9 fi_9_1.1 fi_9_1.2 q_309 G w k_a0.1 k_a0.2 e_z2 (dcs_get dec_X9_isSo_0 9 rfl) ?_
      refine lv_iload G.hx G.hb (dcs_get dec_X9_isSo_0 10 rfl) (lv_at hl 4 rfl) ?_
      obtain ⟨h3, hf⟩ := cG_some hf
      refine r_iald G w k_z2.1 k_z2.2 h3 (dcs_get dec_X9_isSo_0 11 rfl) ?_
      refine lv_iload_n G.hx G.hb (dcs_get dec_X9_isSo_0 12 rfl) rfl (lv_at hl 2 rfl) ?_
      refine lv_icmp_ne (tgt := 74) G.hx G.hb (dcs_get dec_X9_isSo_0 13 rfl) (by decide) (fun hc => ?_) (fun hc => ?_)
      · rw [if_neg hc] at hf
        exact B_X9_isSo_74 a0 a1 l2 l3 l4 σ G hm ok_a0 ok_a1 hf hb0 hr w (lv_sub hl [0, 1, 2, 3, 4] rfl)
      · rw [if_pos hc] at hf
        refine lv_aload_n G.hx G.hb (dcs_get dec_X9_isSo_0 14 rfl) rfl (lv_at hl 0 rfl) ?_
        obtain ⟨z4, e_z4, ok_z4, hf⟩ := cR_some hf
        have k_z4 := okr_in ok_z4
        refine r_getr (k := 0) cls9 fi_9_0.1 fi_9_0.2 q_308 G w k_a0.1 k_a0.2 e_z4 (dcs_get dec_X9_isSo_0 15 rfl) ?_
        refine lv_iload G.hx G.hb (dcs_get dec_X9_isSo_0 16 rfl) (lv_at hl 4 rfl) ?_
        obtain ⟨h5, hf⟩ := cG_some hf
        refine r_iald G w k_z4.1 k_z4.2 h5 (dcs_get dec_X9_isSo_0 17 rfl) ?_
        refine lv_iload_n G.hx G.hb (dcs_get dec_X9_isSo_0 18 rfl) rfl (lv_at hl 2 rfl) ?_
        obtain ⟨v7, h6, hf⟩ := cB_some hf
        refine a_i (k_SN (As := [.int (σ.1 z4 l4.toNatClampNeg), .int l2]) (rest := []) lb_X11_pairOf q_389 nm_970 (C_X11_pairOf G.2.2.1 (σ.1 z4 l4.toNatClampNeg) l2 σ h6 ) ⟨(Nat.le_of_ble_eq_true rfl), (Nat.le_of_ble_eq_true rfl)⟩ G w rfl rfl hl.1 (Nat.le_of_ble_eq_true rfl) (dcs_get dec_X9_isSo_0 19 rfl) ⟨Nat.le_refl _, Nat.le_refl _⟩) G w (fun H locs w => ?_)
        refine lv_istore (lv' := [(5, .int v7), (0, .ref (ad a0)), (1, .ref (ad a1)), (2, .int l2), (3, .int l3), (4, .int l4)]) G.hx G.hb (dcs_get dec_X9_isSo_0 20 rfl) hl (by decide) rfl (fun ls hl => ?_)
        refine lv_aload_n G.hx G.hb (dcs_get dec_X9_isSo_0 21 rfl) rfl (lv_at hl 2 rfl) ?_
        refine lv_aload_n G.hx G.hb (dcs_get dec_X9_isSo_0 22 rfl) rfl (lv_at hl 1 rfl) ?_
        obtain ⟨z8, e_z8, ok_z8, hf⟩ := cR_some hf
        have k_z8 := okr_in ok_z8
        refine r_getr (k := 0) cls9 fi_9_0.1 fi_9_0.2 q_308 G w k_a0.1 k_a0.2 e_z8 (dcs_get dec_X9_isSo_0 23 rfl) ?_
        refine lv_iload G.hx G.hb (dcs_get dec_X9_isSo_0 24 rfl) (lv_at hl 5 rfl) ?_
        obtain ⟨h9, hf⟩ := cG_some hf
        refine r_iald G w k_z8.1 k_z8.2 h9 (dcs_get dec_X9_isSo_0 25 rfl) ?_
        refine lv_iload_n G.hx G.hb (dcs_get dec_X9_isSo_0 26 rfl) rfl (lv_at hl 3 rfl) ?_
        obtain ⟨v11, h10, hf⟩ := cB_some hf
        refine a_i (k_VN (As := [.int (σ.1 z8 l4.toNatClampNeg), .int l2]) (rest := []) cls10 lb_X10_knows lv_X10_knows nm_971 (C_X10_knows G.2.2.1 a1 (σ.1 z8 l4.toNatClampNeg) l2 σ h10 ok_a1) ⟨(Nat.le_of_ble_eq_true rfl), (Nat.le_of_ble_eq_true rfl)⟩ G w k_a1.1 k_a1.2 rfl rfl hl.1 (Nat.le_of_ble_eq_true rfl) (dcs_get dec_X9_isSo_0 27 rfl) ⟨Nat.le_refl _, Nat.le_refl _⟩) G w (fun H locs w => ?_)
        refine lv_if_eq (tgt := 72) G.hx G.hb (dcs_get dec_X9_isSo_0 28 rfl) (by decide) (fun hc => ?_) (fun hc => ?_)
        · rw [if_pos hc] at hf
          obtain ⟨x9, h9, e9⟩ := map_some_inv hf
          subst e9
          have e8 := hr _ rfl
          rw [e8] at h9
          exact B_X9_isSo_72  σ G hm  h9 w (lv_sub hl [] rfl)
        · rw [if_neg hc] at hf
          refine lv_aload_n G.hx G.hb (dcs_get dec_X9_isSo_0 29 rfl) rfl (lv_at hl 2 rfl) ?_
          obtain ⟨z12, e_z12, ok_z12, hf⟩ := cR_some hf
          have k_z12 := okr_in ok_z12
          refine r_getrN (k := 9) cls10 fi_10_9.1 fi_10_9.2 nf_251 G w k_a1.1 k_a1.2 e_z12 (dcs_get dec_X9_isSo_0 30 rfl) ?_
          refine lv_iload G.hx G.hb (dcs_get dec_X9_isSo_0 31 rfl) (lv_at hl 0 rfl) ?_
          obtain ⟨h13, hf⟩ := cG_some hf
          refine r_iald G w k_z12.1 k_z12.2 h13 (dcs_get dec_X9_isSo_0 32 rfl) ?_
          refine lv_aload_n G.hx G.hb (dcs_get dec_X9_isSo_0 33 rfl) rfl (lv_at hl 1 rfl) ?_
          obtain ⟨z14, e_z14, ok_z14, hf⟩ := cR_some hf
          have k_z14 := okr_in ok_z14
          refine r_getr (k := 2) cls9 fi_9_2.1 fi_9_2.2 q_310 G w k_a0.1 k_a0.2 e_z14 (dcs_get dec_X9_isSo_0 34 rfl) ?_
          refine lv_iload G.hx G.hb (dcs_get dec_X9_isSo_0 35 rfl) (lv_at hl 5 rfl) ?_
          obtain ⟨h15, hf⟩ := cG_some hf
          refine r_iald G w k_z14.1 k_z14.2 h15 (dcs_get dec_X9_isSo_0 36 rfl) ?_
          refine lv_icmp_eq (tgt := 74) G.hx G.hb (dcs_get dec_X9_isSo_0 37 rfl) (by decide) (fun hc => ?_) (fun hc => ?_)
          · rw [if_pos hc] at hf
            exact B_X9_isSo_74 a0 a1 l2 l3 l4 σ G hm ok_a0 ok_a1 hf hb0 hr w (lv_sub hl [1, 2, 3, 4, 5] rfl)
          · rw [if_neg hc] at hf
            obtain ⟨x9, h9, e9⟩ := map_some_inv hf
            subst e9
            have e8 := hr _ rfl
            rw [e8] at h9
            exact B_X9_isSo_72  σ G hm  h9 w (lv_sub hl [] rfl)
set_option maxRecDepth 100000 in
set_option maxHeartbeats 4000000 in
theorem H_X9_isSo_3 {r0 : Int32} (a0 : Nat) (a1 : Nat) (l2 : Int32) (l3 : Int32) (σ : hSt) (G : Gx p m c cX9_isSo 6 s args RX9 D ay NC ad (aN NC ad)) (hm : meth.sig.returnType = (some .boolean) ∧ meth.locks = false) (ok_a0 : okr kC NC 9 a0 = true) (ok_a1 : okr kC NC 10 a1 = true)  : ∀ (k : Nat) (v : Int32), lp (S_X9_isSo_3 a0 a1 l2 l3 σ) k v = some r0 → ∀ (H : Heap) (locs : List Loc) (ls : Array Slot), Wd D ay kC NC ad (aN NC ad) s σ H locs → lv_has ls 6 [(0, .ref (ad a0)), (1, .ref (ad a1)), (2, .int l2), (3, .int l3), (4, .int v)] → W p l e (rmK 2 43) s m args below meth c H locs 0 0 (MQ below (cI D ay kC NC ad r0 σ) args s 0 0 (aN NC ad)) (F0 m 3 ls []) := by
  intro k
  induction k with
  | zero => intro v hf; cases hf
  | succ k ih =>
    intro v hf H locs ls w hl
    obtain ⟨o1, h1, h2, h3⟩ := lp_some hf
    exact B_X9_isSo_3b a0 a1 l2 l3 v σ G hm ok_a0 ok_a1 h1  (fun v' e => ih v' (h2 v' e)) (fun x e => h3 x e) w hl
set_option maxRecDepth 100000 in
set_option maxHeartbeats 4000000 in
theorem B_X9_isSo_3 {H : Heap} {locs : List Loc} {ls : Array Slot} {r0 : Int32} (a0 : Nat) (a1 : Nat) (l2 : Int32) (l3 : Int32) (l4 : Int32) (σ : hSt) (G : Gx p m c cX9_isSo 6 s args RX9 D ay NC ad (aN NC ad)) (hm : meth.sig.returnType = (some .boolean) ∧ meth.locks = false) (ok_a0 : okr kC NC 9 a0 = true) (ok_a1 : okr kC NC 10 a1 = true) (hf : F_X9_isSo_3 a0 a1 l2 l3 l4 σ = some r0)  (w : Wd D ay kC NC ad (aN NC ad) s σ H locs) (hl : lv_has ls 6 [(0, .ref (ad a0)), (1, .ref (ad a1)), (2, .int l2), (3, .int l3), (4, .int l4)]) : W p l e (rmK 2 43) s m args below meth c H locs 0 0 (MQ below (cI D ay kC NC ad r0 σ) args s 0 0 (aN NC ad)) (F0 m 3 ls []) := by
  unfold F_X9_isSo_3 at hf
  exact H_X9_isSo_3 a0 a1 l2 l3 σ G hm ok_a0 ok_a1  fuel (l4) hf _ _ _ w hl
set_option maxRecDepth 100000 in
set_option maxHeartbeats 4000000 in
theorem B_X9_isSo_0 {H : Heap} {locs : List Loc} {ls : Array Slot} {r0 : Int32} (a0 : Nat) (a1 : Nat) (l2 : Int32) (l3 : Int32) (σ : hSt) (G : Gx p m c cX9_isSo 6 s args RX9 D ay NC ad (aN NC ad)) (hm : meth.sig.returnType = (some .boolean) ∧ meth.locks = false) (ok_a0 : okr kC NC 9 a0 = true) (ok_a1 : okr kC NC 10 a1 = true) (hf : F_X9_isSo a0 a1 l2 l3 σ = some r0)  (w : Wd D ay kC NC ad (aN NC ad) s σ H locs) (hl : lv_has ls 6 [(0, .ref (ad a0)), (1, .ref (ad a1)), (2, .int l2), (3, .int l3)]) : W p l e (rmK 2 43) s m args below meth c H locs 0 0 (MQ below (cI D ay kC NC ad r0 σ) args s 0 0 (aN NC ad)) (F0 m 0 ls []) := by
  have k_a0 := okr_in ok_a0
  have k_a1 := okr_in ok_a1
  unfold F_X9_isSo at hf
  refine lv_iconst (v := (0 : Int32)) G.hx G.hb (dcs_get dec_X9_isSo_0 0 rfl) (by decide) ?_
  refine lv_istore (lv' := [(4, .int (0 : Int32)), (0, .ref (ad a0)), (1, .ref (ad a1)), (2, .int l2), (3, .int l3)]) G.hx G.hb (dcs_get dec_X9_isSo_0 1 rfl) hl (by decide) rfl (fun ls hl => ?_)
  exact B_X9_isSo_3 a0 a1 l2 l3 (0 : Int32) σ G hm ok_a0 ok_a1 hf  w (lv_sub hl [1, 2, 3, 4, 0] rfl)
end
set_option maxRecDepth 100000 in
set_option maxHeartbeats 4000000 in
theorem C_X9_isSo {l : Launch} {D : va_G} {ay : Nat → ClassId} {ad : Nat → Nat} (hi : hInj NC ad) (a0 : Nat) (a1 : Nat) (l2 : Int32) (l3 : Int32) (σ : hSt) {r0 : Int32} (hf : F_X9_isSo a0 a1 l2 l3 σ = some r0) (ok_a0 : okr kC NC 9 a0 = true) (ok_a1 : okr kC NC 10 a1 = true) : hM l D ay kC NC ad yX9_isSo cX9_isSo 6 ((some .boolean)) (rmK 2 43) [.ref (ad a0), .ref (ad a1), .int l2, .int l3] σ (cI D ay kC NC ad r0 σ) := by
  refine hM_in (by decide) hi (Nat.le_of_ble_eq_true rfl) ?_
  intro p e s m below meth c G hm w ls hl
  exact B_X9_isSo_0 a0 a1 l2 l3 σ G hm ok_a0 ok_a1 hf w (lv_sub hl [0, 1, 2, 3] rfl)
