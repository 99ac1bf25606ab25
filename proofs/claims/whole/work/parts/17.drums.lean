/-! HillDrums.feed(IIIII)I -/
def DL_X11_feed_0 : List (Nat × Instr × Nat) := [(0, .aload_n 0, 1), (1, .getfield 10, 3), (4, .getfield 90, 3), (7, .bipush 20, 2), (9, .iadd, 1), (10, .sipush 2000, 3), (13, .if_icmp .le 5, 3), (16, .iconst (-1), 1), (17, .ireturn, 1), (18, .aload_n 0, 1), (19, .getfield 10, 3), (22, .iload_n 1, 1), (23, .invokevirtual 93, 3), (26, .aload_n 0, 1), (27, .getfield 10, 3), (30, .iload_n 2, 1), (31, .invokevirtual 93, 3), (34, .aload_n 0, 1), (35, .getfield 10, 3), (38, .iload_n 3, 1), (39, .invokevirtual 93, 3), (42, .aload_n 0, 1), (43, .getfield 10, 3), (46, .iload 4, 2), (48, .invokevirtual 93, 3), (51, .aload_n 0, 1), (52, .getfield 10, 3), (55, .iload 5, 2), (57, .invokevirtual 93, 3), (60, .aload_n 0, 1), (61, .getfield 10, 3), (64, .getfield 90, 3), (67, .ireturn, 1)]
set_option maxRecDepth 100000 in
theorem dec_X11_feed_0 : dcs cX11_feed DL_X11_feed_0 = true := by decide +kernel
theorem lb_X11_feed : lkB yX11_feed cX11_feed 6 ((some .int)) 5 := ⟨q_434, q_1, ⟨by decide, by decide⟩, by decide +kernel⟩
theorem lv_X11_feed : lkV yX11_feed := ⟨q_432, q_433⟩
def F_X11_feed (a0 : Nat) (l1 : Int32) (l2 : Int32) (l3 : Int32) (l4 : Int32) (l5 : Int32) (σ : hSt) : Option (Int32 × hSt) :=
cR (σ.2.2 a0 0) (okr kC NC 6) fun z1 =>
if ((σ.1 z1 1) + (20 : Int32)) ≤ (2000 : Int32) then (
cR (σ.2.2 a0 0) (okr kC NC 6) fun z2 =>
(F_X6_add z2 l1 σ).bind fun σ4 =>
cR (σ4.2.2 a0 0) (okr kC NC 6) fun z5 =>
(F_X6_add z5 l2 σ4).bind fun σ7 =>
cR (σ7.2.2 a0 0) (okr kC NC 6) fun z8 =>
(F_X6_add z8 l3 σ7).bind fun σ10 =>
cR (σ10.2.2 a0 0) (okr kC NC 6) fun z11 =>
(F_X6_add z11 l4 σ10).bind fun σ13 =>
cR (σ13.2.2 a0 0) (okr kC NC 6) fun z14 =>
(F_X6_add z14 l5 σ13).bind fun σ16 =>
cR (σ16.2.2 a0 0) (okr kC NC 6) fun z17 =>
some ((σ16.1 z17 1, σ16))) else (
some (((-1 : Int32), σ)))
section
variable {p : Program} {l : Launch} {e : Env} {s : State} {m : MethodId} {args : Array Value} {below : List Frame} {meth : Method} {c : Code} {D : va_G} {ay : Nat → ClassId} {ad : Nat → Nat}
set_option maxRecDepth 100000 in
set_option maxHeartbeats 4000000 in
theorem B_X11_feed_0 {H : Heap} {locs : List Loc} {ls : Array Slot} {r0 : Int32} {σ0 : hSt} (a0 : Nat) (l1 : Int32) (l2 : Int32) (l3 : Int32) (l4 : Int32) (l5 : Int32) (σ : hSt) (G : Gx p m c cX11_feed 6 s args RX11 D ay NC ad (aN NC ad)) (hm : meth.sig.returnType = (some .int) ∧ meth.locks = false) (ok_a0 : okr kC NC 11 a0 = true) (hf : F_X11_feed a0 l1 l2 l3 l4 l5 σ = some (r0, σ0))  (w : Wd D ay kC NC ad (aN NC ad) s σ H locs) (hl : lv_has ls 6 [(0, .ref (ad a0)), (1, .int l1), (2, .int l2), (3, .int l3), (4, .int l4), (5, .int l5)]) : W p l e (rmK 1 22) s m args below meth c H locs 0 0 (MQ below (cI D ay kC NC ad r0 σ0) args s 0 0 (aN NC ad)) (F0 m 0 ls []) := by
  have k_a0 := okr_in ok_a0
  unfold F_X11_feed at hf
  refine lv_aload_n G.hx G.hb (dcs_get dec_X11_feed_0 0 rfl) rfl (lv_at hl 0 rfl) ?_
  obtain ⟨z1, e_z1, ok_z1, hf⟩ := cR_some hf
  have k_z1 := okr_in ok_z1
  refine r_getr (k := 0) cls11 fi_11_0.1 fi_11_0.2 q_391 G w k_a0.1 k_a0.2 e_z1 (dcs_get dec_X11_feed_0 1 rfl) ?_
  refine r_getiN (k := 1) cls6 fi_6_1.1 fi_6_1.2 nf_39 G w k_z1.1 k_z1.2 (dcs_get dec_X11_feed_0 2 rfl) ?_
  refine lv_bipush (v := (20 : Int32)) G.hx G.hb (dcs_get dec_X11_feed_0 3 rfl) (by decide) ?_
  refine lv_iadd G.hx G.hb (dcs_get dec_X11_feed_0 4 rfl) ?_
  refine lv_sipush (v := (2000 : Int32)) G.hx G.hb (dcs_get dec_X11_feed_0 5 rfl) (by decide) ?_
  refine lv_icmp_le (tgt := 18) G.hx G.hb (dcs_get dec_X11_feed_0 6 rfl) (by decide) (fun hc => ?_) (fun hc => ?_)
  · rw [if_pos hc] at hf
    refine lv_aload_n G.hx G.hb (dcs_get dec_X11_feed_0 9 rfl) rfl (lv_at hl 0 rfl) ?_
    obtain ⟨z2, e_z2, ok_z2, hf⟩ := cR_some hf
    have k_z2 := okr_in ok_z2
    refine r_getr (k := 0) cls11 fi_11_0.1 fi_11_0.2 q_391 G w k_a0.1 k_a0.2 e_z2 (dcs_get dec_X11_feed_0 10 rfl) ?_
    refine lv_iload_n G.hx G.hb (dcs_get dec_X11_feed_0 11 rfl) rfl (lv_at hl 1 rfl) ?_
    obtain ⟨σ4, h3, hf⟩ := cB_some hf
    refine a_v (k_VN (As := [.int l1]) (rest := []) cls6 lb_X6_add lv_X6_add nm_435 (C_X6_add G.2.2.1 z2 l1 σ h3 ok_z2) ⟨(Nat.le_of_ble_eq_true rfl), (Nat.le_of_ble_eq_true rfl)⟩ G w k_z2.1 k_z2.2 rfl rfl hl.1 (Nat.le_of_ble_eq_true rfl) (dcs_get dec_X11_feed_0 12 rfl) ⟨Nat.le_refl _, Nat.le_refl _⟩) G w (fun H locs w => ?_)
    refine lv_aload_n G.hx G.hb (dcs_get dec_X11_feed_0 13 rfl) rfl (lv_at hl 0 rfl) ?_
    obtain ⟨z5, e_z5, ok_z5, hf⟩ := cR_some hf
    have k_z5 := okr_in ok_z5
    refine r_getr (k := 0) cls11 fi_11_0.1 fi_11_0.2 q_391 G w k_a0.1 k_a0.2 e_z5 (dcs_get dec_X11_feed_0 14 rfl) ?_
    refine lv_iload_n G.hx G.hb (dcs_get dec_X11_feed_0 15 rfl) rfl (lv_at hl 2 rfl) ?_
    obtain ⟨σ7, h6, hf⟩ := cB_some hf
    refine a_v (k_VN (As := [.int l2]) (rest := []) cls6 lb_X6_add lv_X6_add nm_435 (C_X6_add G.2.2.1 z5 l2 σ4 h6 ok_z5) ⟨(Nat.le_of_ble_eq_true rfl), (Nat.le_of_ble_eq_true rfl)⟩ G w k_z5.1 k_z5.2 rfl rfl hl.1 (Nat.le_of_ble_eq_true rfl) (dcs_get dec_X11_feed_0 16 rfl) ⟨Nat.le_refl _, Nat.le_refl _⟩) G w (fun H locs w => ?_)
    refine lv_aload_n G.hx G.hb (dcs_get dec_X11_feed_0 17 rfl) rfl (lv_at hl 0 rfl) ?_
    obtain ⟨z8, e_z8, ok_z8, hf⟩ := cR_some hf
    have k_z8 := okr_in ok_z8
    refine r_getr (k := 0) cls11 fi_11_0.1 fi_11_0.2 q_391 G w k_a0.1 k_a0.2 e_z8 (dcs_get dec_X11_feed_0 18 rfl) ?_
    refine lv_iload_n G.hx G.hb (dcs_get dec_X11_feed_0 19 rfl) rfl (lv_at hl 3 rfl) ?_
    obtain ⟨σ10, h9, hf⟩ := cB_some hf
    refine a_v (k_VN (As := [.int l3]) (rest := []) cls6 lb_X6_add lv_X6_add nm_435 (C_X6_add G.2.2.1 z8 l3 σ7 h9 ok_z8) ⟨(Nat.le_of_ble_eq_true rfl), (Nat.le_of_ble_eq_true rfl)⟩ G w k_z8.1 k_z8.2 rfl rfl hl.1 (Nat.le_of_ble_eq_true rfl) (dcs_get dec_X11_feed_0 20 rfl) ⟨Nat.le_refl _, Nat.le_refl _⟩) G w (fun H locs w => ?_)
    refine lv_aload_n G.hx G.hb (dcs_get dec_X11_feed_0 21 rfl) rfl (lv_at hl 0 rfl) ?_
    obtain ⟨z11, e_z11, ok_z11, hf⟩ := cR_some hf
    have k_z11 := okr_in ok_z11
    refine r_getr (k := 0) cls11 fi_11_0.1 fi_11_0.2 q_391 G w k_a0.1 k_a0.2 e_z11 (dcs_get dec_X11_feed_0 22 rfl) ?_
    refine lv_iload G.hx G.hb (dcs_get dec_X11_feed_0 23 rfl) (lv_at hl 4 rfl) ?_
    obtain ⟨σ13, h12, hf⟩ := cB_some hf
    refine a_v (k_VN (As := [.int l4]) (rest := []) cls6 lb_X6_add lv_X6_add nm_435 (C_X6_add G.2.2.1 z11 l4 σ10 h12 ok_z11) ⟨(Nat.le_of_ble_eq_true rfl), (Nat.le_of_ble_eq_true rfl)⟩ G w k_z11.1 k_z11.2 rfl rfl hl.1 (Nat.le_of_ble_eq_true rfl) (dcs_get dec_X11_feed_0 24 rfl) ⟨Nat.le_refl _, Nat.le_refl _⟩) G w (fun H locs w => ?_)
    refine lv_aload_n G.hx G.hb (dcs_get dec_X11_feed_0 25 rfl) rfl (lv_at hl 0 rfl) ?_
    obtain ⟨z14, e_z14, ok_z14, hf⟩ := cR_some hf
    have k_z14 := okr_in ok_z14
    refine r_getr (k := 0) cls11 fi_11_0.1 fi_11_0.2 q_391 G w k_a0.1 k_a0.2 e_z14 (dcs_get dec_X11_feed_0 26 rfl) ?_
    refine lv_iload G.hx G.hb (dcs_get dec_X11_feed_0 27 rfl) (lv_at hl 5 rfl) ?_
    obtain ⟨σ16, h15, hf⟩ := cB_some hf
    refine a_v (k_VN (As := [.int l5]) (rest := []) cls6 lb_X6_add lv_X6_add nm_435 (C_X6_add G.2.2.1 z14 l5 σ13 h15 ok_z14) ⟨(Nat.le_of_ble_eq_true rfl), (Nat.le_of_ble_eq_true rfl)⟩ G w k_z14.1 k_z14.2 rfl rfl hl.1 (Nat.le_of_ble_eq_true rfl) (dcs_get dec_X11_feed_0 28 rfl) ⟨Nat.le_refl _, Nat.le_refl _⟩) G w (fun H locs w => ?_)
    refine lv_aload_n G.hx G.hb (dcs_get dec_X11_feed_0 29 rfl) rfl (lv_at hl 0 rfl) ?_
    obtain ⟨z17, e_z17, ok_z17, hf⟩ := cR_some hf
    have k_z17 := okr_in ok_z17
    refine r_getr (k := 0) cls11 fi_11_0.1 fi_11_0.2 q_391 G w k_a0.1 k_a0.2 e_z17 (dcs_get dec_X11_feed_0 30 rfl) ?_
    refine r_getiN (k := 1) cls6 fi_6_1.1 fi_6_1.2 nf_39 G w k_z17.1 k_z17.2 (dcs_get dec_X11_feed_0 31 rfl) ?_
    have e9 := Option.some.inj hf
    exact r_iret G w hm (congrArg Prod.fst e9) (congrArg Prod.snd e9) (dcs_get dec_X11_feed_0 32 rfl)
  · rw [if_neg hc] at hf
    refine lv_iconst (v := (-1 : Int32)) G.hx G.hb (dcs_get dec_X11_feed_0 7 rfl) (by decide) ?_
    have e9 := Option.some.inj hf
    exact r_iret G w hm (congrArg Prod.fst e9) (congrArg Prod.snd e9) (dcs_get dec_X11_feed_0 8 rfl)
end
set_option maxRecDepth 100000 in
set_option maxHeartbeats 4000000 in
theorem C_X11_feed {l : Launch} {D : va_G} {ay : Nat → ClassId} {ad : Nat → Nat} (hi : hInj NC ad) (a0 : Nat) (l1 : Int32) (l2 : Int32) (l3 : Int32) (l4 : Int32) (l5 : Int32) (σ : hSt) {r0 : Int32} {σ0 : hSt} (hf : F_X11_feed a0 l1 l2 l3 l4 l5 σ = some (r0, σ0)) (ok_a0 : okr kC NC 11 a0 = true) : hM l D ay kC NC ad yX11_feed cX11_feed 6 ((some .int)) (rmK 1 22) [.ref (ad a0), .int l1, .int l2, .int l3, .int l4, .int l5] σ (cI D ay kC NC ad r0 σ0) := by
  refine hM_in (by decide) hi (Nat.le_of_ble_eq_true rfl) ?_
  intro p e s m below meth c G hm w ls hl
  exact B_X11_feed_0 a0 l1 l2 l3 l4 l5 σ G hm ok_a0 hf w (lv_sub hl [0, 1, 2, 3, 4, 5] rfl)

/-! HillDrums.back(I)I -/
def DL_X11_back_0 : List (Nat × Instr × Nat) := [(0, .iload_n 1, 1), (1, .ifCond .lt 14, 3), (4, .iload_n 1, 1), (5, .aload_n 0, 1), (6, .getfield 10, 3), (9, .getfield 90, 3), (12, .if_icmp .le 5, 3), (15, .iconst (-1), 1), (16, .ireturn, 1), (17, .aload_n 0, 1), (18, .getfield 10, 3), (21, .dup, 1), (22, .getfield 90, 3), (25, .iload_n 1, 1), (26, .isub, 1), (27, .putfield 90, 3), (30, .aload_n 0, 1), (31, .getfield 10, 3), (34, .getfield 90, 3), (37, .ireturn, 1)]
set_option maxRecDepth 100000 in
theorem dec_X11_back_0 : dcs cX11_back DL_X11_back_0 = true := by decide +kernel
theorem lb_X11_back : lkB yX11_back cX11_back 2 ((some .int)) 1 := ⟨q_442, q_1, ⟨by decide, by decide⟩, by decide +kernel⟩
theorem lv_X11_back : lkV yX11_back := ⟨q_440, q_441⟩
def F_X11_back_15  (σ : hSt) : Option (Int32 × hSt) :=
some (((-1 : Int32), σ))
def F_X11_back (a0 : Nat) (l1 : Int32) (σ : hSt) : Option (Int32 × hSt) :=
if l1 < 0 then (
F_X11_back_15  σ) else (
cR (σ.2.2 a0 0) (okr kC NC 6) fun z1 =>
if l1 ≤ (σ.1 z1 1) then (
cR (σ.2.2 a0 0) (okr kC NC 6) fun z2 =>
cL (uI σ z2 1 ((σ.1 z2 1) - l1)) fun σ3 =>
cR (σ3.2.2 a0 0) (okr kC NC 6) fun z4 =>
some ((σ3.1 z4 1, σ3))) else (
F_X11_back_15  σ))
section
variable {p : Program} {l : Launch} {e : Env} {s : State} {m : MethodId} {args : Array Value} {below : List Frame} {meth : Method} {c : Code} {D : va_G} {ay : Nat → ClassId} {ad : Nat → Nat}
set_option maxRecDepth 100000 in
set_option maxHeartbeats 4000000 in
theorem B_X11_back_15 {H : Heap} {locs : List Loc} {ls : Array Slot} {r0 : Int32} {σ0 : hSt}  (σ : hSt) (G : Gx p m c cX11_back 2 s args RX11 D ay NC ad (aN NC ad)) (hm : meth.sig.returnType = (some .int) ∧ meth.locks = false)  (hf : F_X11_back_15  σ = some (r0, σ0))  (w : Wd D ay kC NC ad (aN NC ad) s σ H locs) (hl : lv_has ls 2 []) : W p l e (rmK 0 0) s m args below meth c H locs 0 0 (MQ below (cI D ay kC NC ad r0 σ0) args s 0 0 (aN NC ad)) (F0 m 15 ls []) := by
  unfold F_X11_back_15 at hf
  refine lv_iconst (v := (-1 : Int32)) G.hx G.hb (dcs_get dec_X11_back_0 7 rfl) (by decide) ?_
  have e9 := Option.some.inj hf
  exact r_iret G w hm (congrArg Prod.fst e9) (congrArg Prod.snd e9) (dcs_get dec_X11_back_0 8 rfl)
set_option maxRecDepth 100000 in
set_option maxHeartbeats 4000000 in
theorem B_X11_back_0 {H : Heap} {locs : List Loc} {ls : Array Slot} {r0 : Int32} {σ0 : hSt} (a0 : Nat) (l1 : Int32) (σ : hSt) (G : Gx p m c cX11_back 2 s args RX11 D ay NC ad (aN NC ad)) (hm : meth.sig.returnType = (some .int) ∧ meth.locks = false) (ok_a0 : okr kC NC 11 a0 = true) (hf : F_X11_back a0 l1 σ = some (r0, σ0))  (w : Wd D ay kC NC ad (aN NC ad) s σ H locs) (hl : lv_has ls 2 [(0, .ref (ad a0)), (1, .int l1)]) : W p l e (rmK 0 0) s m args below meth c H locs 0 0 (MQ below (cI D ay kC NC ad r0 σ0) args s 0 0 (aN NC ad)) (F0 m 0 ls []) := by
  have k_a0 := okr_in ok_a0
  unfold F_X11_back at hf
  refine lv_iload_n G.hx G.hb (dcs_get dec_X11_back_0 0 rfl) rfl (lv_at hl 1 rfl) ?_
  refine lv_if_lt (tgt := 15) G.hx G.hb (dcs_get dec_X11_back_0 1 rfl) (by decide) (fun hc => ?_) (fun hc => ?_)
  · rw [if_pos hc] at hf
    exact B_X11_back_15  σ G hm  hf  w (lv_sub hl [] rfl)
  · rw [if_neg hc] at hf
    refine lv_iload_n G.hx G.hb (dcs_get dec_X11_back_0 2 rfl) rfl (lv_at hl 1 rfl) ?_
    refine lv_aload_n G.hx G.hb (dcs_get dec_X11_back_0 3 rfl) rfl (lv_at hl 0 rfl) ?_
    obtain ⟨z1, e_z1, ok_z1, hf⟩ := cR_some hf
    have k_z1 := okr_in ok_z1
    refine r_getr (k := 0) cls11 fi_11_0.1 fi_11_0.2 q_391 G w k_a0.1 k_a0.2 e_z1 (dcs_get dec_X11_back_0 4 rfl) ?_
    refine r_getiN (k := 1) cls6 fi_6_1.1 fi_6_1.2 nf_39 G w k_z1.1 k_z1.2 (dcs_get dec_X11_back_0 5 rfl) ?_
    refine lv_icmp_le (tgt := 17) G.hx G.hb (dcs_get dec_X11_back_0 6 rfl) (by decide) (fun hc => ?_) (fun hc => ?_)
    · rw [if_pos hc] at hf
      refine lv_aload_n G.hx G.hb (dcs_get dec_X11_back_0 9 rfl) rfl (lv_at hl 0 rfl) ?_
      obtain ⟨z2, e_z2, ok_z2, hf⟩ := cR_some hf
      have k_z2 := okr_in ok_z2
      refine r_getr (k := 0) cls11 fi_11_0.1 fi_11_0.2 q_391 G w k_a0.1 k_a0.2 e_z2 (dcs_get dec_X11_back_0 10 rfl) ?_
      refine lv_dup G.hx G.hb (dcs_get dec_X11_back_0 11 rfl) rfl ?_
      refine r_getiN (k := 1) cls6 fi_6_1.1 fi_6_1.2 nf_39 G w k_z2.1 k_z2.2 (dcs_get dec_X11_back_0 12 rfl) ?_
      refine lv_iload_n G.hx G.hb (dcs_get dec_X11_back_0 13 rfl) rfl (lv_at hl 1 rfl) ?_
      refine lv_isub G.hx G.hb (dcs_get dec_X11_back_0 14 rfl) ?_
      obtain ⟨σ3, e_σ3, hf⟩ := cL_some hf
      refine r_putiN (k := 1) cls6 ct6 fi_6_1.1 fi_6_1.2 fp_6_1.1 fp_6_1.2 nf_39 rfl rfl G w k_z2.1 k_z2.2 (dcs_get dec_X11_back_0 15 rfl) (fun H locs w => ?_)
      have w := Wd.nm e_σ3 w
      refine lv_aload_n G.hx G.hb (dcs_get dec_X11_back_0 16 rfl) rfl (lv_at hl 0 rfl) ?_
      obtain ⟨z4, e_z4, ok_z4, hf⟩ := cR_some hf
      have k_z4 := okr_in ok_z4
      refine r_getr (k := 0) cls11 fi_11_0.1 fi_11_0.2 q_391 G w k_a0.1 k_a0.2 e_z4 (dcs_get dec_X11_back_0 17 rfl) ?_
      refine r_getiN (k := 1) cls6 fi_6_1.1 fi_6_1.2 nf_39 G w k_z4.1 k_z4.2 (dcs_get dec_X11_back_0 18 rfl) ?_
      have e9 := Option.some.inj hf
      exact r_iret G w hm (congrArg Prod.fst e9) (congrArg Prod.snd e9) (dcs_get dec_X11_back_0 19 rfl)
    · rw [if_neg hc] at hf
      exact B_X11_back_15  σ G hm  hf  w (lv_sub hl [] rfl)
end
set_option maxRecDepth 100000 in
set_option maxHeartbeats 4000000 in
theorem C_X11_back {l : Launch} {D : va_G} {ay : Nat → ClassId} {ad : Nat → Nat} (hi : hInj NC ad) (a0 : Nat) (l1 : Int32) (σ : hSt) {r0 : Int32} {σ0 : hSt} (hf : F_X11_back a0 l1 σ = some (r0, σ0)) (ok_a0 : okr kC NC 11 a0 = true) : hM l D ay kC NC ad yX11_back cX11_back 2 ((some .int)) (rmK 0 0) [.ref (ad a0), .int l1] σ (cI D ay kC NC ad r0 σ0) := by
  refine hM_in (by decide) hi (Nat.le_of_ble_eq_true rfl) ?_
  intro p e s m below meth c G hm w ls hl
  exact B_X11_back_0 a0 l1 σ G hm ok_a0 hf w (lv_sub hl [0, 1] rfl)

/-! HillDrums.takeSpareText()V -/
def DL_X11_takeSpareText_0 : List (Nat × Instr × Nat) := [(0, .aload_n 0, 1), (1, .getfield 19, 3), (4, .astore_n 1, 1), (5, .aload_n 0, 1), (6, .aload_n 0, 1), (7, .getfield 23, 3), (10, .putfield 19, 3), (13, .aload_n 0, 1), (14, .aload_n 1, 1), (15, .putfield 23, 3), (18, .aload_n 0, 1), (19, .getfield 42, 3), (22, .aload_n 0, 1), (23, .getfield 19, 3), (26, .invokevirtual 87, 3), (29, .aload_n 0, 1), (30, .getfield 52, 3), (33, .iconst 0, 1), (34, .putfield 110, 3), (37, .aload_n 0, 1), (38, .getfield 66, 3), (41, .iconst 0, 1), (42, .putfield 113, 3), (45, .aload_n 0, 1), (46, .iconst 0, 1), (47, .putfield 60, 3), (50, .return_, 1)]
set_option maxRecDepth 100000 in
theorem dec_X11_takeSpareText_0 : dcs cX11_takeSpareText DL_X11_takeSpareText_0 = true := by decide +kernel
theorem lb_X11_takeSpareText : lkB yX11_takeSpareText cX11_takeSpareText 2 (none) 0 := ⟨q_677, q_1, ⟨by decide, by decide⟩, by decide +kernel⟩
theorem lv_X11_takeSpareText : lkV yX11_takeSpareText := ⟨q_676, qs_30⟩
def F_X11_takeSpareText (a0 : Nat) (σ : hSt) : Option (hSt) :=
cR (σ.2.2 a0 1) (okr kC NC 7) fun z1 =>
cR (σ.2.2 a0 2) (okr kC NC 7) fun z2 =>
cL (uP σ a0 1 (some z2)) fun σ3 =>
cL (uP σ3 a0 2 (some z1)) fun σ4 =>
cR (σ4.2.2 a0 5) (okr kC NC 10) fun z5 =>
cR (σ4.2.2 a0 1) (okr kC NC 7) fun z6 =>
(F_X10_begin z5 z6 σ4).bind fun σ8 =>
cR (σ8.2.2 a0 7) (okr kC NC 2) fun z9 =>
cL (uI σ8 z9 2 (0 : Int32)) fun σ10 =>
cR (σ10.2.2 a0 10) (okr kC NC 9) fun z11 =>
cL (uI σ10 z11 3 (0 : Int32)) fun σ12 =>
cL (uI σ12 a0 9 (0 : Int32)) fun σ13 =>
some (σ13)
section
variable {p : Program} {l : Launch} {e : Env} {s : State} {m : MethodId} {args : Array Value} {below : List Frame} {meth : Method} {c : Code} {D : va_G} {ay : Nat → ClassId} {ad : Nat → Nat}
set_option maxRecDepth 100000 in
set_option maxHeartbeats 4000000 in
theorem B_X11_takeSpareText_0 {H : Heap} {locs : List Loc} {ls : Array Slot} {σ0 : hSt} (a0 : Nat) (σ : hSt) (G : Gx p m c cX11_takeSpareText 2 s args RX11 D ay NC ad (aN NC ad)) (hm : meth.sig.returnType = none ∧ meth.locks = false) (ok_a0 : okr kC NC 11 a0 = true) (hf : F_X11_takeSpareText a0 σ = some σ0)  (w : Wd D ay kC NC ad (aN NC ad) s σ H locs) (hl : lv_has ls 2 [(0, .ref (ad a0))]) : W p l e (rmK 3 66) s m args below meth c H locs 0 0 (MQ below (cV D ay kC NC ad σ0) args s 0 0 (aN NC ad)) (F0 m 0 ls []) := by
  have k_a0 := okr_in ok_a0
  unfold F_X11_takeSpareText at hf
  refine lv_aload_n G.hx G.hb (dcs_get dec_X11_takeSpareText_0 0 rfl) rfl (lv_at hl 0 rfl) ?_
  obtain ⟨z1, e_z1, ok_z1, hf⟩ := cR_some hf
  have k_z1 := okr_in ok_z1
  refine r_getr (k := 1) cls11 fi_11_1.1 fi_11_1.2 q_392 G w k_a0.1 k_a0.2 e_z1 (dcs_get dec_X11_takeSpareText_0 1 rfl) ?_
  refine lv_astore_n (lv' := [(1, .ref (ad z1)), (0, .ref (ad a0))]) G.hx G.hb (dcs_get dec_X11_takeSpareText_0 2 rfl) rfl hl (by decide) rfl (fun ls hl => ?_)
  refine lv_aload_n G.hx G.hb (dcs_get dec_X11_takeSpareText_0 3 rfl) rfl (lv_at hl 1 rfl) ?_
  refine lv_aload_n G.hx G.hb (dcs_get dec_X11_takeSpareText_0 4 rfl) rfl (lv_at hl 1 rfl) ?_
  obtain ⟨z2, e_z2, ok_z2, hf⟩ := cR_some hf
  have k_z2 := okr_in ok_z2
  refine r_getr (k := 2) cls11 fi_11_2.1 fi_11_2.2 q_393 G w k_a0.1 k_a0.2 e_z2 (dcs_get dec_X11_takeSpareText_0 5 rfl) ?_
  obtain ⟨σ3, e_σ3, hf⟩ := cL_some hf
  refine r_putr (k := 1) cls11 ct11 fi_11_1.1 fi_11_1.2 fp_11_1.1 fp_11_1.2 q_392 (fun _ => rfl) (fun _ => rfl) G w k_a0.1 k_a0.2 (dcs_get dec_X11_takeSpareText_0 6 rfl) (fun H locs w => ?_)
  have w := Wd.nm e_σ3 w
  refine lv_aload_n G.hx G.hb (dcs_get dec_X11_takeSpareText_0 7 rfl) rfl (lv_at hl 1 rfl) ?_
  refine lv_aload_n G.hx G.hb (dcs_get dec_X11_takeSpareText_0 8 rfl) rfl (lv_at hl 0 rfl) ?_
  obtain ⟨σ4, e_σ4, hf⟩ := cL_some hf
  refine r_putr (k := 2) cls11 ct11 fi_11_2.1 fi_11_2.2 fp_11_2.1 fp_11_2.2 q_393 (fun _ => rfl) (fun _ => rfl) G w k_a0.1 k_a0.2 (dcs_get dec_X11_takeSpareText_0 9 rfl) (fun H locs w => ?_)
  have w := Wd.nm e_σ4 w
  refine lv_aload_n G.hx G.hb (dcs_get dec_X11_takeSpareText_0 10 rfl) rfl (lv_at hl 1 rfl) ?_
  obtain ⟨z5, e_z5, ok_z5, hf⟩ := cR_some hf
  have k_z5 := okr_in ok_z5
  refine r_getr (k := 5) cls11 fi_11_5.1 fi_11_5.2 q_396 G w k_a0.1 k_a0.2 e_z5 (dcs_get dec_X11_takeSpareText_0 11 rfl) ?_
  refine lv_aload_n G.hx G.hb (dcs_get dec_X11_takeSpareText_0 12 rfl) rfl (lv_at hl 1 rfl) ?_
  obtain ⟨z6, e_z6, ok_z6, hf⟩ := cR_some hf
  have k_z6 := okr_in ok_z6
  refine r_getr (k := 1) cls11 fi_11_1.1 fi_11_1.2 q_392 G w k_a0.1 k_a0.2 e_z6 (dcs_get dec_X11_takeSpareText_0 13 rfl) ?_
  obtain ⟨σ8, h7, hf⟩ := cB_some hf
  refine a_v (k_VN (As := [.ref (ad z6)]) (rest := []) cls10 lb_X10_begin lv_X10_begin nm_380 (C_X10_begin G.2.2.1 z5 z6 σ4 h7 ok_z5 ok_z6) ⟨(Nat.le_of_ble_eq_true rfl), (Nat.le_of_ble_eq_true rfl)⟩ G w k_z5.1 k_z5.2 rfl rfl hl.1 (Nat.le_of_ble_eq_true rfl) (dcs_get dec_X11_takeSpareText_0 14 rfl) ⟨Nat.le_refl _, Nat.le_refl _⟩) G w (fun H locs w => ?_)
  refine lv_aload_n G.hx G.hb (dcs_get dec_X11_takeSpareText_0 15 rfl) rfl (lv_at hl 1 rfl) ?_
  obtain ⟨z9, e_z9, ok_z9, hf⟩ := cR_some hf
  have k_z9 := okr_in ok_z9
  refine r_getr (k := 7) cls11 fi_11_7.1 fi_11_7.2 q_398 G w k_a0.1 k_a0.2 e_z9 (dcs_get dec_X11_takeSpareText_0 16 rfl) ?_
  refine lv_iconst (v := (0 : Int32)) G.hx G.hb (dcs_get dec_X11_takeSpareText_0 17 rfl) (by decide) ?_
  obtain ⟨σ10, e_σ10, hf⟩ := cL_some hf
  refine r_putiN (k := 2) cls2 ct2 fi_2_2.1 fi_2_2.2 fp_2_2.1 fp_2_2.2 nf_294 rfl rfl G w k_z9.1 k_z9.2 (dcs_get dec_X11_takeSpareText_0 18 rfl) (fun H locs w => ?_)
  have w := Wd.nm e_σ10 w
  refine lv_aload_n G.hx G.hb (dcs_get dec_X11_takeSpareText_0 19 rfl) rfl (lv_at hl 1 rfl) ?_
  obtain ⟨z11, e_z11, ok_z11, hf⟩ := cR_some hf
  have k_z11 := okr_in ok_z11
  refine r_getr (k := 10) cls11 fi_11_10.1 fi_11_10.2 q_401 G w k_a0.1 k_a0.2 e_z11 (dcs_get dec_X11_takeSpareText_0 20 rfl) ?_
  refine lv_iconst (v := (0 : Int32)) G.hx G.hb (dcs_get dec_X11_takeSpareText_0 21 rfl) (by decide) ?_
  obtain ⟨σ12, e_σ12, hf⟩ := cL_some hf
  refine r_putiN (k := 3) cls9 ct9 fi_9_3.1 fi_9_3.2 fp_9_3.1 fp_9_3.2 nf_312 rfl rfl G w k_z11.1 k_z11.2 (dcs_get dec_X11_takeSpareText_0 22 rfl) (fun H locs w => ?_)
  have w := Wd.nm e_σ12 w
  refine lv_aload_n G.hx G.hb (dcs_get dec_X11_takeSpareText_0 23 rfl) rfl (lv_at hl 1 rfl) ?_
  refine lv_iconst (v := (0 : Int32)) G.hx G.hb (dcs_get dec_X11_takeSpareText_0 24 rfl) (by decide) ?_
  obtain ⟨σ13, e_σ13, hf⟩ := cL_some hf
  refine r_puti (k := 9) cls11 ct11 fi_11_9.1 fi_11_9.2 fp_11_9.1 fp_11_9.2 q_400 rfl rfl G w k_a0.1 k_a0.2 (dcs_get dec_X11_takeSpareText_0 25 rfl) (fun H locs w => ?_)
  have w := Wd.nm e_σ13 w
  have e9 := Option.some.inj hf
  exact r_vret G w hm e9 (dcs_get dec_X11_takeSpareText_0 26 rfl)
end
set_option maxRecDepth 100000 in
set_option maxHeartbeats 4000000 in
theorem C_X11_takeSpareText {l : Launch} {D : va_G} {ay : Nat → ClassId} {ad : Nat → Nat} (hi : hInj NC ad) (a0 : Nat) (σ : hSt) {σ0 : hSt} (hf : F_X11_takeSpareText a0 σ = some σ0) (ok_a0 : okr kC NC 11 a0 = true) : hM l D ay kC NC ad yX11_takeSpareText cX11_takeSpareText 2 (none) (rmK 3 66) [.ref (ad a0)] σ (cV D ay kC NC ad σ0) := by
  refine hM_in (by decide) hi (Nat.le_of_ble_eq_true rfl) ?_
  intro p e s m below meth c G hm w ls hl
  exact B_X11_takeSpareText_0 a0 σ G hm ok_a0 hf w (lv_sub hl [0] rfl)

/-! HillDrums.read()I -/
def DL_X11_read_0 : List (Nat × Instr × Nat) := [(0, .aload_n 0, 1), (1, .getfield 31, 3), (4, .aload_n 0, 1), (5, .getfield 10, 3), (8, .aload_n 0, 1), (9, .getfield 23, 3), (12, .invokevirtual 97, 3), (15, .aload_n 0, 1), (16, .getfield 10, 3), (19, .iconst 0, 1), (20, .putfield 90, 3), (23, .aload_n 0, 1), (24, .aload_n 0, 1), (25, .getfield 31, 3), (28, .getfield 101, 3), (31, .putfield 35, 3), (34, .aload_n 0, 1), (35, .getfield 31, 3), (38, .getfield 104, 3), (41, .ifCond .ne 7, 3), (44, .aload_n 0, 1), (45, .invokevirtual 107, 3), (48, .aload_n 0, 1), (49, .getfield 31, 3), (52, .getfield 104, 3), (55, .ireturn, 1)]
set_option maxRecDepth 100000 in
theorem dec_X11_read_0 : dcs cX11_read DL_X11_read_0 = true := by decide +kernel
theorem lb_X11_read : lkB yX11_read cX11_read 1 ((some .int)) 0 := ⟨q_446, q_1, ⟨by decide, by decide⟩, by decide +kernel⟩
theorem lv_X11_read : lkV yX11_read := ⟨q_444, q_445⟩
def F_X11_read_48 (a0 : Nat) (σ : hSt) : Option (Int32 × hSt) :=
cR (σ.2.2 a0 3) (okr kC NC 4) fun z1 =>
some ((σ.1 z1 5, σ))
def F_X11_read (a0 : Nat) (σ : hSt) : Option (Int32 × hSt) :=
cR (σ.2.2 a0 3) (okr kC NC 4) fun z2 =>
cR (σ.2.2 a0 0) (okr kC NC 6) fun z3 =>
cR (σ.2.2 a0 2) (okr kC NC 7) fun z4 =>
(F_X4_parse z2 z3 z4 σ).bind fun σ6 =>
cR (σ6.2.2 a0 0) (okr kC NC 6) fun z7 =>
cL (uI σ6 z7 1 (0 : Int32)) fun σ8 =>
cR (σ8.2.2 a0 3) (okr kC NC 4) fun z9 =>
cL (uI σ8 a0 4 (σ8.1 z9 6)) fun σ10 =>
cR (σ10.2.2 a0 3) (okr kC NC 4) fun z11 =>
if (σ10.1 z11 5) = 0 then (
(F_X11_takeSpareText a0 σ10).bind fun σ13 =>
F_X11_read_48 a0 σ13) else (
F_X11_read_48 a0 σ10)
section
variable {p : Program} {l : Launch} {e : Env} {s : State} {m : MethodId} {args : Array Value} {below : List Frame} {meth : Method} {c : Code} {D : va_G} {ay : Nat → ClassId} {ad : Nat → Nat}
set_option maxRecDepth 100000 in
set_option maxHeartbeats 4000000 in
theorem B_X11_read_48 {H : Heap} {locs : List Loc} {ls : Array Slot} {r0 : Int32} {σ0 : hSt} (a0 : Nat) (σ : hSt) (G : Gx p m c cX11_read 1 s args RX11 D ay NC ad (aN NC ad)) (hm : meth.sig.returnType = (some .int) ∧ meth.locks = false) (ok_a0 : okr kC NC 11 a0 = true) (hf : F_X11_read_48 a0 σ = some (r0, σ0))  (w : Wd D ay kC NC ad (aN NC ad) s σ H locs) (hl : lv_has ls 1 [(0, .ref (ad a0))]) : W p l e (rmK 100 2488) s m args below meth c H locs 0 0 (MQ below (cI D ay kC NC ad r0 σ0) args s 0 0 (aN NC ad)) (F0 m 48 ls []) := by
  have k_a0 := okr_in ok_a0
  unfold F_X11_read_48 at hf
  refine lv_aload_n G.hx G.hb (dcs_get dec_X11_read_0 22 rfl) rfl (lv_at hl 0 rfl) ?_
  obtain ⟨z1, e_z1, ok_z1, hf⟩ := cR_some hf
  have k_z1 := okr_in ok_z1
  refine r_getr (k := 3) cls11 fi_11_3.1 fi_11_3.2 q_394 G w k_a0.1 k_a0.2 e_z1 (dcs_get dec_X11_read_0 23 rfl) ?_
  refine r_getiN (k := 5) cls4 fi_4_5.1 fi_4_5.2 nf_203 G w k_z1.1 k_z1.2 (dcs_get dec_X11_read_0 24 rfl) ?_
  have e9 := Option.some.inj hf
  exact r_iret G w hm (congrArg Prod.fst e9) (congrArg Prod.snd e9) (dcs_get dec_X11_read_0 25 rfl)
set_option maxRecDepth 100000 in
set_option maxHeartbeats 4000000 in
theorem B_X11_read_0 {H : Heap} {locs : List Loc} {ls : Array Slot} {r0 : Int32} {σ0 : hSt} (a0 : Nat) (σ : hSt) (G : Gx p m c cX11_read 1 s args RX11 D ay NC ad (aN NC ad)) (hm : meth.sig.returnType = (some .int) ∧ meth.locks = false) (ok_a0 : okr kC NC 11 a0 = true) (hf : F_X11_read a0 σ = some (r0, σ0))  (w : Wd D ay kC NC ad (aN NC ad) s σ H locs) (hl : lv_has ls 1 [(0, .ref (ad a0))]) : W p l e (rmK 100 2488) s m args below meth c H locs 0 0 (MQ below (cI D ay kC NC ad r0 σ0) args s 0 0 (aN NC ad)) (F0 m 0 ls []) := by
  have k_a0 := okr_in ok_a0
  unfold F_X11_read at hf
  refine lv_aload_n G.hx G.hb (dcs_get dec_X11_read_0 0 rfl) rfl (lv_at hl 0 rfl) ?_
  obtain ⟨z2, e_z2, ok_z2, hf⟩ := cR_some hf
  have k_z2 := okr_in ok_z2
  refine r_getr (k := 3) cls11 fi_11_3.1 fi_11_3.2 q_394 G w k_a0.1 k_a0.2 e_z2 (dcs_get dec_X11_read_0 1 rfl) ?_
  refine lv_aload_n G.hx G.hb (dcs_get dec_X11_read_0 2 rfl) rfl (lv_at hl 0 rfl) ?_
  obtain ⟨z3, e_z3, ok_z3, hf⟩ := cR_some hf
  have k_z3 := okr_in ok_z3
  refine r_getr (k := 0) cls11 fi_11_0.1 fi_11_0.2 q_391 G w k_a0.1 k_a0.2 e_z3 (dcs_get dec_X11_read_0 3 rfl) ?_
  refine lv_aload_n G.hx G.hb (dcs_get dec_X11_read_0 4 rfl) rfl (lv_at hl 0 rfl) ?_
  obtain ⟨z4, e_z4, ok_z4, hf⟩ := cR_some hf
  have k_z4 := okr_in ok_z4
  refine r_getr (k := 2) cls11 fi_11_2.1 fi_11_2.2 q_393 G w k_a0.1 k_a0.2 e_z4 (dcs_get dec_X11_read_0 5 rfl) ?_
  obtain ⟨σ6, h5, hf⟩ := cB_some hf
  refine a_v (k_VN (As := [.ref (ad z3), .ref (ad z4)]) (rest := []) cls4 lb_X4_parse lv_X4_parse nm_447 (C_X4_parse G.2.2.1 z2 z3 z4 σ h5 ok_z2 ok_z3 ok_z4) ⟨(Nat.le_of_ble_eq_true rfl), (Nat.le_of_ble_eq_true rfl)⟩ G w k_z2.1 k_z2.2 rfl rfl hl.1 (Nat.le_of_ble_eq_true rfl) (dcs_get dec_X11_read_0 6 rfl) ⟨Nat.le_refl _, Nat.le_refl _⟩) G w (fun H locs w => ?_)
  refine lv_aload_n G.hx G.hb (dcs_get dec_X11_read_0 7 rfl) rfl (lv_at hl 0 rfl) ?_
  obtain ⟨z7, e_z7, ok_z7, hf⟩ := cR_some hf
  have k_z7 := okr_in ok_z7
  refine r_getr (k := 0) cls11 fi_11_0.1 fi_11_0.2 q_391 G w k_a0.1 k_a0.2 e_z7 (dcs_get dec_X11_read_0 8 rfl) ?_
  refine lv_iconst (v := (0 : Int32)) G.hx G.hb (dcs_get dec_X11_read_0 9 rfl) (by decide) ?_
  obtain ⟨σ8, e_σ8, hf⟩ := cL_some hf
  refine r_putiN (k := 1) cls6 ct6 fi_6_1.1 fi_6_1.2 fp_6_1.1 fp_6_1.2 nf_39 rfl rfl G w k_z7.1 k_z7.2 (dcs_get dec_X11_read_0 10 rfl) (fun H locs w => ?_)
  have w := Wd.nm e_σ8 w
  refine lv_aload_n G.hx G.hb (dcs_get dec_X11_read_0 11 rfl) rfl (lv_at hl 0 rfl) ?_
  refine lv_aload_n G.hx G.hb (dcs_get dec_X11_read_0 12 rfl) rfl (lv_at hl 0 rfl) ?_
  obtain ⟨z9, e_z9, ok_z9, hf⟩ := cR_some hf
  have k_z9 := okr_in ok_z9
  refine r_getr (k := 3) cls11 fi_11_3.1 fi_11_3.2 q_394 G w k_a0.1 k_a0.2 e_z9 (dcs_get dec_X11_read_0 13 rfl) ?_
  refine r_getiN (k := 6) cls4 fi_4_6.1 fi_4_6.2 nf_205 G w k_z9.1 k_z9.2 (dcs_get dec_X11_read_0 14 rfl) ?_
  obtain ⟨σ10, e_σ10, hf⟩ := cL_some hf
  refine r_puti (k := 4) cls11 ct11 fi_11_4.1 fi_11_4.2 fp_11_4.1 fp_11_4.2 q_395 rfl rfl G w k_a0.1 k_a0.2 (dcs_get dec_X11_read_0 15 rfl) (fun H locs w => ?_)
  have w := Wd.nm e_σ10 w
  refine lv_aload_n G.hx G.hb (dcs_get dec_X11_read_0 16 rfl) rfl (lv_at hl 0 rfl) ?_
  obtain ⟨z11, e_z11, ok_z11, hf⟩ := cR_some hf
  have k_z11 := okr_in ok_z11
  refine r_getr (k := 3) cls11 fi_11_3.1 fi_11_3.2 q_394 G w k_a0.1 k_a0.2 e_z11 (dcs_get dec_X11_read_0 17 rfl) ?_
  refine r_getiN (k := 5) cls4 fi_4_5.1 fi_4_5.2 nf_203 G w k_z11.1 k_z11.2 (dcs_get dec_X11_read_0 18 rfl) ?_
  refine lv_if_ne (tgt := 48) G.hx G.hb (dcs_get dec_X11_read_0 19 rfl) (by decide) (fun hc => ?_) (fun hc => ?_)
  · rw [if_neg hc] at hf
    exact B_X11_read_48 a0 σ10 G hm ok_a0 hf  w (lv_sub hl [0] rfl)
  · rw [if_pos hc] at hf
    refine lv_aload_n G.hx G.hb (dcs_get dec_X11_read_0 20 rfl) rfl (lv_at hl 0 rfl) ?_
    obtain ⟨σ13, h12, hf⟩ := cB_some hf
    refine a_v (k_V (As := []) (rest := []) cls11 lb_X11_takeSpareText lv_X11_takeSpareText q_674 (C_X11_takeSpareText G.2.2.1 a0 σ10 h12 ok_a0) ⟨(Nat.le_of_ble_eq_true rfl), (Nat.le_of_ble_eq_true rfl)⟩ G w k_a0.1 k_a0.2 rfl rfl hl.1 (Nat.le_of_ble_eq_true rfl) (dcs_get dec_X11_read_0 21 rfl) ⟨Nat.le_refl _, Nat.le_refl _⟩) G w (fun H locs w => ?_)
    exact B_X11_read_48 a0 σ13 G hm ok_a0 hf  w (lv_sub hl [0] rfl)
end
set_option maxRecDepth 100000 in
set_option maxHeartbeats 4000000 in
theorem C_X11_read {l : Launch} {D : va_G} {ay : Nat → ClassId} {ad : Nat → Nat} (hi : hInj NC ad) (a0 : Nat) (σ : hSt) {r0 : Int32} {σ0 : hSt} (hf : F_X11_read a0 σ = some (r0, σ0)) (ok_a0 : okr kC NC 11 a0 = true) : hM l D ay kC NC ad yX11_read cX11_read 1 ((some .int)) (rmK 100 2488) [.ref (ad a0)] σ (cI D ay kC NC ad r0 σ0) := by
  refine hM_in (by decide) hi (Nat.le_of_ble_eq_true rfl) ?_
  intro p e s m below meth c G hm w ls hl
  exact B_X11_read_0 a0 σ G hm ok_a0 hf w (lv_sub hl [0] rfl)

/-! HillDrums.place()I -/
def DL_X11_place_0 : List (Nat × Instr × Nat) := [(0, .aload_n 0, 1), (1, .getfield 35, 3), (4, .ireturn, 1)]
set_option maxRecDepth 100000 in
theorem dec_X11_place_0 : dcs cX11_place DL_X11_place_0 = true := by decide +kernel
theorem lb_X11_place : lkB yX11_place cX11_place 1 ((some .int)) 0 := ⟨q_681, q_1, ⟨by decide, by decide⟩, by decide +kernel⟩
theorem lv_X11_place : lkV yX11_place := ⟨q_679, q_680⟩
def F_X11_place (a0 : Nat) (σ : hSt) : Option (Int32) :=
some (σ.1 a0 4)
section
variable {p : Program} {l : Launch} {e : Env} {s : State} {m : MethodId} {args : Array Value} {below : List Frame} {meth : Method} {c : Code} {D : va_G} {ay : Nat → ClassId} {ad : Nat → Nat}
set_option maxRecDepth 100000 in
set_option maxHeartbeats 4000000 in
theorem B_X11_place_0 {H : Heap} {locs : List Loc} {ls : Array Slot} {r0 : Int32} (a0 : Nat) (σ : hSt) (G : Gx p m c cX11_place 1 s args RX11 D ay NC ad (aN NC ad)) (hm : meth.sig.returnType = (some .int) ∧ meth.locks = false) (ok_a0 : okr kC NC 11 a0 = true) (hf : F_X11_place a0 σ = some r0)  (w : Wd D ay kC NC ad (aN NC ad) s σ H locs) (hl : lv_has ls 1 [(0, .ref (ad a0))]) : W p l e (rmK 0 0) s m args below meth c H locs 0 0 (MQ below (cI D ay kC NC ad r0 σ) args s 0 0 (aN NC ad)) (F0 m 0 ls []) := by
  have k_a0 := okr_in ok_a0
  unfold F_X11_place at hf
  refine lv_aload_n G.hx G.hb (dcs_get dec_X11_place_0 0 rfl) rfl (lv_at hl 0 rfl) ?_
  refine r_geti (k := 4) cls11 fi_11_4.1 fi_11_4.2 q_395 G w k_a0.1 k_a0.2 (dcs_get dec_X11_place_0 1 rfl) ?_
  have e9 := Option.some.inj hf
  exact r_iret G w hm e9 rfl (dcs_get dec_X11_place_0 2 rfl)
end
set_option maxRecDepth 100000 in
set_option maxHeartbeats 4000000 in
theorem C_X11_place {l : Launch} {D : va_G} {ay : Nat → ClassId} {ad : Nat → Nat} (hi : hInj NC ad) (a0 : Nat) (σ : hSt) {r0 : Int32} (hf : F_X11_place a0 σ = some r0) (ok_a0 : okr kC NC 11 a0 = true) : hM l D ay kC NC ad yX11_place cX11_place 1 ((some .int)) (rmK 0 0) [.ref (ad a0)] σ (cI D ay kC NC ad r0 σ) := by
  refine hM_in (by decide) hi (Nat.le_of_ble_eq_true rfl) ?_
  intro p e s m below meth c G hm w ls hl
  exact B_X11_place_0 a0 σ G hm ok_a0 hf w (lv_sub hl [0] rfl)

/-! HillDrums.isHill(I)Z -/
def DL_X11_isHill_0 : List (Nat × Instr × Nat) := [(0, .iload_n 1, 1), (1, .ifCond .lt 18, 3), (4, .iload_n 1, 1), (5, .aload_n 0, 1), (6, .getfield 19, 3), (9, .getfield 114, 3), (12, .if_icmp .ge 7, 3), (15, .iconst 1, 1), (16, .goto 4, 3), (19, .iconst 0, 1), (20, .ireturn, 1)]
set_option maxRecDepth 100000 in
theorem dec_X11_isHill_0 : dcs cX11_isHill DL_X11_isHill_0 = true := by decide +kernel
theorem lb_X11_isHill : lkB yX11_isHill cX11_isHill 2 ((some .boolean)) 1 := ⟨q_689, q_1, ⟨by decide, by decide⟩, by decide +kernel⟩
theorem lv_X11_isHill : lkV yX11_isHill := ⟨q_688, qs_31⟩
def F_X11_isHill_20 (s0 : Int32) (σ : hSt) : Option (Int32) :=
cG (isB s0) <|
some (s0)
def F_X11_isHill_19  (σ : hSt) : Option (Int32) :=
F_X11_isHill_20 (0 : Int32) σ
def F_X11_isHill (a0 : Nat) (l1 : Int32) (σ : hSt) : Option (Int32) :=
if l1 < 0 then (
F_X11_isHill_19  σ) else (
cR (σ.2.2 a0 1) (okr kC NC 7) fun z2 =>
if (σ.1 z2 0) ≤ l1 then (
F_X11_isHill_19  σ) else (
F_X11_isHill_20 (1 : Int32) σ))
section
variable {p : Program} {l : Launch} {e : Env} {s : State} {m : MethodId} {args : Array Value} {below : List Frame} {meth : Method} {c : Code} {D : va_G} {ay : Nat → ClassId} {ad : Nat → Nat}
set_option maxRecDepth 100000 in
set_option maxHeartbeats 4000000 in
theorem B_X11_isHill_20 {H : Heap} {locs : List Loc} {ls : Array Slot} {r0 : Int32} (s0 : Int32) (σ : hSt) (G : Gx p m c cX11_isHill 2 s args RX11 D ay NC ad (aN NC ad)) (hm : meth.sig.returnType = (some .boolean) ∧ meth.locks = false)  (hf : F_X11_isHill_20 s0 σ = some r0)  (w : Wd D ay kC NC ad (aN NC ad) s σ H locs) (hl : lv_has ls 2 []) : W p l e (rmK 0 0) s m args below meth c H locs 0 0 (MQ below (cI D ay kC NC ad r0 σ) args s 0 0 (aN NC ad)) (F0 m 20 ls [.int s0]) := by
  unfold F_X11_isHill_20 at hf
  obtain ⟨h1, hf⟩ := cG_some hf
  have e9 := Option.some.inj hf
  exact r_zret (isB_nar h1) G w hm e9 rfl (dcs_get dec_X11_isHill_0 10 rfl)
set_option maxRecDepth 100000 in
set_option maxHeartbeats 4000000 in
theorem B_X11_isHill_19 {H : Heap} {locs : List Loc} {ls : Array Slot} {r0 : Int32}  (σ : hSt) (G : Gx p m c cX11_isHill 2 s args RX11 D ay NC ad (aN NC ad)) (hm : meth.sig.returnType = (some .boolean) ∧ meth.locks = false)  (hf : F_X11_isHill_19  σ = some r0)  (w : Wd D ay kC NC ad (aN NC ad) s σ H locs) (hl : lv_has ls 2 []) : W p l e (rmK 0 0) s m args below meth c H locs 0 0 (MQ below (cI D ay kC NC ad r0 σ) args s 0 0 (aN NC ad)) (F0 m 19 ls []) := by
  unfold F_X11_isHill_19 at hf
  refine lv_iconst (v := (0 : Int32)) G.hx G.hb (dcs_get dec_X11_isHill_0 9 rfl) (by decide) ?_
  exact B_X11_isHill_20 (0 : Int32) σ G hm  hf  w (lv_sub hl [] rfl)
set_option maxRecDepth 100000 in
set_option maxHeartbeats 4000000 in
theorem B_X11_isHill_0 {H : Heap} {locs : List Loc} {ls : Array Slot} {r0 : Int32} (a0 : Nat) (l1 : Int32) (σ : hSt) (G : Gx p m c cX11_isHill 2 s args RX11 D ay NC ad (aN NC ad)) (hm : meth.sig.returnType = (some .boolean) ∧ meth.locks = false) (ok_a0 : okr kC NC 11 a0 = true) (hf : F_X11_isHill a0 l1 σ = some r0)  (w : Wd D ay kC NC ad (aN NC ad) s σ H locs) (hl : lv_has ls 2 [(0, .ref (ad a0)), (1, .int l1)]) : W p l e (rmK 0 0) s m args below meth c H locs 0 0 (MQ below (cI D ay kC NC ad r0 σ) args s 0 0 (aN NC ad)) (F0 m 0 ls []) := by
  have k_a0 := okr_in ok_a0
  unfold F_X11_isHill at hf
  refine lv_iload_n G.hx G.hb (dcs_get dec_X11_isHill_0 0 rfl) rfl (lv_at hl 1 rfl) ?_
  refine lv_if_lt (tgt := 19) G.hx G.hb (dcs_get dec_X11_isHill_0 1 rfl) (by decide) (fun hc => ?_) (fun hc => ?_)
  · rw [if_pos hc] at hf
    exact B_X11_isHill_19  σ G hm  hf  w (lv_sub hl [] rfl)
  · rw [if_neg hc] at hf
    refine lv_iload_n G.hx G.hb (dcs_get dec_X11_isHill_0 2 rfl) rfl (lv_at hl 1 rfl) ?_
    refine lv_aload_n G.hx G.hb (dcs_get dec_X11_isHill_0 3 rfl) rfl (lv_at hl 0 rfl) ?_
    obtain ⟨z2, e_z2, ok_z2, hf⟩ := cR_some hf
    have k_z2 := okr_in ok_z2
    refine r_getr (k := 1) cls11 fi_11_1.1 fi_11_1.2 q_392 G w k_a0.1 k_a0.2 e_z2 (dcs_get dec_X11_isHill_0 4 rfl) ?_
    refine r_getiN (k := 0) cls7 fi_7_0.1 fi_7_0.2 nf_94 G w k_z2.1 k_z2.2 (dcs_get dec_X11_isHill_0 5 rfl) ?_
    refine lv_icmp_ge (tgt := 19) G.hx G.hb (dcs_get dec_X11_isHill_0 6 rfl) (by decide) (fun hc => ?_) (fun hc => ?_)
    · rw [if_pos hc] at hf
      exact B_X11_isHill_19  σ G hm  hf  w (lv_sub hl [] rfl)
    · rw [if_neg hc] at hf
      refine lv_iconst (v := (1 : Int32)) G.hx G.hb (dcs_get dec_X11_isHill_0 7 rfl) (by decide) ?_
      refine lv_goto (tgt := 20) G.hx G.hb (dcs_get dec_X11_isHill_0 8 rfl) (by decide) ?_
      exact B_X11_isHill_20 (1 : Int32) σ G hm  hf  w (lv_sub hl [] rfl)
end
set_option maxRecDepth 100000 in
set_option maxHeartbeats 4000000 in
theorem C_X11_isHill {l : Launch} {D : va_G} {ay : Nat → ClassId} {ad : Nat → Nat} (hi : hInj NC ad) (a0 : Nat) (l1 : Int32) (σ : hSt) {r0 : Int32} (hf : F_X11_isHill a0 l1 σ = some r0) (ok_a0 : okr kC NC 11 a0 = true) : hM l D ay kC NC ad yX11_isHill cX11_isHill 2 ((some .boolean)) (rmK 0 0) [.ref (ad a0), .int l1] σ (cI D ay kC NC ad r0 σ) := by
  refine hM_in (by decide) hi (Nat.le_of_ble_eq_true rfl) ?_
  intro p e s m below meth c G hm w ls hl
  exact B_X11_isHill_0 a0 l1 σ G hm ok_a0 hf w (lv_sub hl [0, 1] rfl)

/-! HillDrums.isNews(I)Z -/
def DL_X11_isNews_0 : List (Nat × Instr × Nat) := [(0, .iload_n 1, 1), (1, .ifCond .lt 18, 3), (4, .iload_n 1, 1), (5, .aload_n 0, 1), (6, .getfield 19, 3), (9, .getfield 117, 3), (12, .if_icmp .ge 7, 3), (15, .iconst 1, 1), (16, .goto 4, 3), (19, .iconst 0, 1), (20, .ireturn, 1)]
set_option maxRecDepth 100000 in
theorem dec_X11_isNews_0 : dcs cX11_isNews DL_X11_isNews_0 = true := by decide +kernel
theorem lb_X11_isNews : lkB yX11_isNews cX11_isNews 2 ((some .boolean)) 1 := ⟨q_723, q_1, ⟨by decide, by decide⟩, by decide +kernel⟩
theorem lv_X11_isNews : lkV yX11_isNews := ⟨q_722, qs_37⟩
def F_X11_isNews_20 (s0 : Int32) (σ : hSt) : Option (Int32) :=
cG (isB s0) <|
some (s0)
def F_X11_isNews_19  (σ : hSt) : Option (Int32) :=
F_X11_isNews_20 (0 : Int32) σ
def F_X11_isNews (a0 : Nat) (l1 : Int32) (σ : hSt) : Option (Int32) :=
if l1 < 0 then (
F_X11_isNews_19  σ) else (
cR (σ.2.2 a0 1) (okr kC NC 7) fun z2 =>
if (σ.1 z2 3) ≤ l1 then (
F_X11_isNews_19  σ) else (
F_X11_isNews_20 (1 : Int32) σ))
section
variable {p : Program} {l : Launch} {e : Env} {s : State} {m : MethodId} {args : Array Value} {below : List Frame} {meth : Method} {c : Code} {D : va_G} {ay : Nat → ClassId} {ad : Nat → Nat}
set_option maxRecDepth 100000 in
set_option maxHeartbeats 4000000 in
theorem B_X11_isNews_20 {H : Heap} {locs : List Loc} {ls : Array Slot} {r0 : Int32} (s0 : Int32) (σ : hSt) (G : Gx p m c cX11_isNews 2 s args RX11 D ay NC ad (aN NC ad)) (hm : meth.sig.returnType = (some .boolean) ∧ meth.locks = false)  (hf : F_X11_isNews_20 s0 σ = some r0)  (w : Wd D ay kC NC ad (aN NC ad) s σ H locs) (hl : lv_has ls 2 []) : W p l e (rmK 0 0) s m args below meth c H locs 0 0 (MQ below (cI D ay kC NC ad r0 σ) args s 0 0 (aN NC ad)) (F0 m 20 ls [.int s0]) := by
  unfold F_X11_isNews_20 at hf
  obtain ⟨h1, hf⟩ := cG_some hf
  have e9 := Option.some.inj hf
  exact r_zret (isB_nar h1) G w hm e9 rfl (dcs_get dec_X11_isNews_0 10 rfl)
set_option maxRecDepth 100000 in
set_option maxHeartbeats 4000000 in
theorem B_X11_isNews_19 {H : Heap} {locs : List Loc} {ls : Array Slot} {r0 : Int32}  (σ : hSt) (G : Gx p m c cX11_isNews 2 s args RX11 D ay NC ad (aN NC ad)) (hm : meth.sig.returnType = (some .boolean) ∧ meth.locks = false)  (hf : F_X11_isNews_19  σ = some r0)  (w : Wd D ay kC NC ad (aN NC ad) s σ H locs) (hl : lv_has ls 2 []) : W p l e (rmK 0 0) s m args below meth c H locs 0 0 (MQ below (cI D ay kC NC ad r0 σ) args s 0 0 (aN NC ad)) (F0 m 19 ls []) := by
  unfold F_X11_isNews_19 at hf
  refine lv_iconst (v := (0 : Int32)) G.hx G.hb (dcs_get dec_X11_isNews_0 9 rfl) (by decide) ?_
  exact B_X11_isNews_20 (0 : Int32) σ G hm  hf  w (lv_sub hl [] rfl)
set_option maxRecDepth 100000 in
set_option maxHeartbeats 4000000 in
theorem B_X11_isNews_0 {H : Heap} {locs : List Loc} {ls : Array Slot} {r0 : Int32} (a0 : Nat) (l1 : Int32) (σ : hSt) (G : Gx p m c cX11_isNews 2 s args RX11 D ay NC ad (aN NC ad)) (hm : meth.sig.returnType = (some .boolean) ∧ meth.locks = false) (ok_a0 : okr kC NC 11 a0 = true) (hf : F_X11_isNews a0 l1 σ = some r0)  (w : Wd D ay kC NC ad (aN NC ad) s σ H locs) (hl : lv_has ls 2 [(0, .ref (ad a0)), (1, .int l1)]) : W p l e (rmK 0 0) s m args below meth c H locs 0 0 (MQ below (cI D ay kC NC ad r0 σ) args s 0 0 (aN NC ad)) (F0 m 0 ls []) := by
  have k_a0 := okr_in ok_a0
  unfold F_X11_isNews at hf
  refine lv_iload_n G.hx G.hb (dcs_get dec_X11_isNews_0 0 rfl) rfl (lv_at hl 1 rfl) ?_
  refine lv_if_lt (tgt := 19) G.hx G.hb (dcs_get dec_X11_isNews_0 1 rfl) (by decide) (fun hc => ?_) (fun hc => ?_)
  · rw [if_pos hc] at hf
    exact B_X11_isNews_19  σ G hm  hf  w (lv_sub hl [] rfl)
  · rw [if_neg hc] at hf
    refine lv_iload_n G.hx G.hb (dcs_get dec_X11_isNews_0 2 rfl) rfl (lv_at hl 1 rfl) ?_
    refine lv_aload_n G.hx G.hb (dcs_get dec_X11_isNews_0 3 rfl) rfl (lv_at hl 0 rfl) ?_
    obtain ⟨z2, e_z2, ok_z2, hf⟩ := cR_some hf
    have k_z2 := okr_in ok_z2
    refine r_getr (k := 1) cls11 fi_11_1.1 fi_11_1.2 q_392 G w k_a0.1 k_a0.2 e_z2 (dcs_get dec_X11_isNews_0 4 rfl) ?_
    refine r_getiN (k := 3) cls7 fi_7_3.1 fi_7_3.2 nf_104 G w k_z2.1 k_z2.2 (dcs_get dec_X11_isNews_0 5 rfl) ?_
    refine lv_icmp_ge (tgt := 19) G.hx G.hb (dcs_get dec_X11_isNews_0 6 rfl) (by decide) (fun hc => ?_) (fun hc => ?_)
    · rw [if_pos hc] at hf
      exact B_X11_isNews_19  σ G hm  hf  w (lv_sub hl [] rfl)
    · rw [if_neg hc] at hf
      refine lv_iconst (v := (1 : Int32)) G.hx G.hb (dcs_get dec_X11_isNews_0 7 rfl) (by decide) ?_
      refine lv_goto (tgt := 20) G.hx G.hb (dcs_get dec_X11_isNews_0 8 rfl) (by decide) ?_
      exact B_X11_isNews_20 (1 : Int32) σ G hm  hf  w (lv_sub hl [] rfl)
end
set_option maxRecDepth 100000 in
set_option maxHeartbeats 4000000 in
theorem C_X11_isNews {l : Launch} {D : va_G} {ay : Nat → ClassId} {ad : Nat → Nat} (hi : hInj NC ad) (a0 : Nat) (l1 : Int32) (σ : hSt) {r0 : Int32} (hf : F_X11_isNews a0 l1 σ = some r0) (ok_a0 : okr kC NC 11 a0 = true) : hM l D ay kC NC ad yX11_isNews cX11_isNews 2 ((some .boolean)) (rmK 0 0) [.ref (ad a0), .int l1] σ (cI D ay kC NC ad r0 σ) := by
  refine hM_in (by decide) hi (Nat.le_of_ble_eq_true rfl) ?_
  intro p e s m below meth c G hm w ls hl
  exact B_X11_isNews_0 a0 l1 σ G hm ok_a0 hf w (lv_sub hl [0, 1] rfl)

/-! HillDrums.hears(III)I -/
def DL_X11_hears_0 : List (Nat × Instr × Nat) := [(0, .aload_n 0, 1), (1, .iload_n 1, 1), (2, .invokevirtual 120, 3), (5, .ifCond .eq 22, 3), (8, .aload_n 0, 1), (9, .iload_n 2, 1), (10, .invokevirtual 120, 3), (13, .ifCond .eq 14, 3), (16, .iload_n 3, 1), (17, .ifCond .lt 10, 3), (20, .iload_n 3, 1), (21, .sipush 9999, 3), (24, .if_icmp .le 5, 3), (27, .iconst (-1), 1), (28, .ireturn, 1), (29, .iload_n 1, 1), (30, .iload_n 2, 1), (31, .if_icmp .eq 16, 3), (34, .aload_n 0, 1), (35, .getfield 19, 3), (38, .iload_n 1, 1), (39, .iload_n 2, 1), (40, .iload_n 3, 1), (41, .invokevirtual 124, 3), (44, .ifCond .eq 7, 3), (47, .iconst 1, 1), (48, .goto 4, 3), (51, .iconst 0, 1), (52, .ireturn, 1)]
set_option maxRecDepth 100000 in
theorem dec_X11_hears_0 : dcs cX11_hears DL_X11_hears_0 = true := by decide +kernel
theorem lb_X11_hears : lkB yX11_hears cX11_hears 4 ((some .int)) 3 := ⟨q_685, q_1, ⟨by decide, by decide⟩, by decide +kernel⟩
theorem lv_X11_hears : lkV yX11_hears := ⟨q_683, q_684⟩
def F_X11_hears_27  (σ : hSt) : Option (Int32 × hSt) :=
some (((-1 : Int32), σ))
def F_X11_hears_52 (s0 : Int32) (σ : hSt) : Option (Int32 × hSt) :=
some ((s0, σ))
def F_X11_hears_47  (σ : hSt) : Option (Int32 × hSt) :=
F_X11_hears_52 (1 : Int32) σ
def F_X11_hears (a0 : Nat) (l1 : Int32) (l2 : Int32) (l3 : Int32) (σ : hSt) : Option (Int32 × hSt) :=
(F_X11_isHill a0 l1 σ).bind fun v2 =>
if v2 = 0 then (
F_X11_hears_27  σ) else (
(F_X11_isHill a0 l2 σ).bind fun v4 =>
if v4 = 0 then (
F_X11_hears_27  σ) else (
if l3 < 0 then (
F_X11_hears_27  σ) else (
if l3 ≤ (9999 : Int32) then (
if l1 = l2 then (
F_X11_hears_47  σ) else (
cR (σ.2.2 a0 1) (okr kC NC 7) fun z5 =>
cC (F_X7_lawTells z5 l1 l2 l3 σ) fun v7 σ8 =>
if v7 = 0 then (
F_X11_hears_52 (0 : Int32) σ8) else (
F_X11_hears_47  σ8))) else (
F_X11_hears_27  σ))))
section
variable {p : Program} {l : Launch} {e : Env} {s : State} {m : MethodId} {args : Array Value} {below : List Frame} {meth : Method} {c : Code} {D : va_G} {ay : Nat → ClassId} {ad : Nat → Nat}
set_option maxRecDepth 100000 in
set_option maxHeartbeats 4000000 in
theorem B_X11_hears_27 {H : Heap} {locs : List Loc} {ls : Array Slot} {r0 : Int32} {σ0 : hSt}  (σ : hSt) (G : Gx p m c cX11_hears 4 s args RX11 D ay NC ad (aN NC ad)) (hm : meth.sig.returnType = (some .int) ∧ meth.locks = false)  (hf : F_X11_hears_27  σ = some (r0, σ0))  (w : Wd D ay kC NC ad (aN NC ad) s σ H locs) (hl : lv_has ls 4 []) : W p l e (rmK 3 71) s m args below meth c H locs 0 0 (MQ below (cI D ay kC NC ad r0 σ0) args s 0 0 (aN NC ad)) (F0 m 27 ls []) := by
  unfold F_X11_hears_27 at hf
  refine lv_iconst (v := (-1 : Int32)) G.hx G.hb (dcs_get dec_X11_hears_0 13 rfl) (by decide) ?_
  have e9 := Option.some.inj hf
  exact r_iret G w hm (congrArg Prod.fst e9) (congrArg Prod.snd e9) (dcs_get dec_X11_hears_0 14 rfl)
set_option maxRecDepth 100000 in
set_option maxHeartbeats 4000000 in
theorem B_X11_hears_52 {H : Heap} {locs : List Loc} {ls : Array Slot} {r0 : Int32} {σ0 : hSt} (s0 : Int32) (σ : hSt) (G : Gx p m c cX11_hears 4 s args RX11 D ay NC ad (aN NC ad)) (hm : meth.sig.returnType = (some .int) ∧ meth.locks = false)  (hf : F_X11_hears_52 s0 σ = some (r0, σ0))  (w : Wd D ay kC NC ad (aN NC ad) s σ H locs) (hl : lv_has ls 4 []) : W p l e (rmK 3 71) s m args below meth c H locs 0 0 (MQ below (cI D ay kC NC ad r0 σ0) args s 0 0 (aN NC ad)) (F0 m 52 ls [.int s0]) := by
  unfold F_X11_hears_52 at hf
  have e9 := Option.some.inj hf
  exact r_iret G w hm (congrArg Prod.fst e9) (congrArg Prod.snd e9) (dcs_get dec_X11_hears_0 28 rfl)
set_option maxRecDepth 100000 in
set_option maxHeartbeats 4000000 in
theorem B_X11_hears_47 {H : Heap} {locs : List Loc} {ls : Array Slot} {r0 : Int32} {σ0 : hSt}  (σ : hSt) (G : Gx p m c cX11_hears 4 s args RX11 D ay NC ad (aN NC ad)) (hm : meth.sig.returnType = (some .int) ∧ meth.locks = false)  (hf : F_X11_hears_47  σ = some (r0, σ0))  (w : Wd D ay kC NC ad (aN NC ad) s σ H locs) (hl : lv_has ls 4 []) : W p l e (rmK 3 71) s m args below meth c H locs 0 0 (MQ below (cI D ay kC NC ad r0 σ0) args s 0 0 (aN NC ad)) (F0 m 47 ls []) := by
  unfold F_X11_hears_47 at hf
  refine lv_iconst (v := (1 : Int32)) G.hx G.hb (dcs_get dec_X11_hears_0 25 rfl) (by decide) ?_
  refine lv_goto (tgt := 52) G.hx G.hb (dcs_get dec_X11_hears_0 26 rfl) (by decide) ?_
  exact B_X11_hears_52 (1 : Int32) σ G hm  hf  w (lv_sub hl [] rfl)
set_option maxRecDepth 100000 in
set_option maxHeartbeats 4000000 in
theorem B_X11_hears_0 {H : Heap} {locs : List Loc} {ls : Array Slot} {r0 : Int32} {σ0 : hSt} (a0 : Nat) (l1 : Int32) (l2 : Int32) (l3 : Int32) (σ : hSt) (G : Gx p m c cX11_hears 4 s args RX11 D ay NC ad (aN NC ad)) (hm : meth.sig.returnType = (some .int) ∧ meth.locks = false) (ok_a0 : okr kC NC 11 a0 = true) (hf : F_X11_hears a0 l1 l2 l3 σ = some (r0, σ0))  (w : Wd D ay kC NC ad (aN NC ad) s σ H locs) (hl : lv_has ls 4 [(0, .ref (ad a0)), (1, .int l1), (2, .int l2), (3, .int l3)]) : W p l e (rmK 3 71) s m args below meth c H locs 0 0 (MQ below (cI D ay kC NC ad r0 σ0) args s 0 0 (aN NC ad)) (F0 m 0 ls []) := by
  have k_a0 := okr_in ok_a0
  unfold F_X11_hears at hf
  refine lv_aload_n G.hx G.hb (dcs_get dec_X11_hears_0 0 rfl) rfl (lv_at hl 0 rfl) ?_
  refine lv_iload_n G.hx G.hb (dcs_get dec_X11_hears_0 1 rfl) rfl (lv_at hl 1 rfl) ?_
  obtain ⟨v2, h1, hf⟩ := cB_some hf
  refine a_i (k_V (As := [.int l1]) (rest := []) cls11 lb_X11_isHill lv_X11_isHill q_686 (C_X11_isHill G.2.2.1 a0 l1 σ h1 ok_a0) ⟨(Nat.le_of_ble_eq_true rfl), (Nat.le_of_ble_eq_true rfl)⟩ G w k_a0.1 k_a0.2 rfl rfl hl.1 (Nat.le_of_ble_eq_true rfl) (dcs_get dec_X11_hears_0 2 rfl) ⟨Nat.le_refl _, Nat.le_refl _⟩) G w (fun H locs w => ?_)
  refine lv_if_eq (tgt := 27) G.hx G.hb (dcs_get dec_X11_hears_0 3 rfl) (by decide) (fun hc => ?_) (fun hc => ?_)
  · rw [if_pos hc] at hf
    exact B_X11_hears_27  σ G hm  hf  w (lv_sub hl [] rfl)
  · rw [if_neg hc] at hf
    refine lv_aload_n G.hx G.hb (dcs_get dec_X11_hears_0 4 rfl) rfl (lv_at hl 0 rfl) ?_
    refine lv_iload_n G.hx G.hb (dcs_get dec_X11_hears_0 5 rfl) rfl (lv_at hl 2 rfl) ?_
    obtain ⟨v4, h3, hf⟩ := cB_some hf
    refine a_i (k_V (As := [.int l2]) (rest := []) cls11 lb_X11_isHill lv_X11_isHill q_686 (C_X11_isHill G.2.2.1 a0 l2 σ h3 ok_a0) ⟨(Nat.le_of_ble_eq_true rfl), (Nat.le_of_ble_eq_true rfl)⟩ G w k_a0.1 k_a0.2 rfl rfl hl.1 (Nat.le_of_ble_eq_true rfl) (dcs_get dec_X11_hears_0 6 rfl) ⟨Nat.le_refl _, Nat.le_refl _⟩) G w (fun H locs w => ?_)
    refine lv_if_eq (tgt := 27) G.hx G.hb (dcs_get dec_X11_hears_0 7 rfl) (by decide) (fun hc => ?_) (fun hc => ?_)
    · rw [if_pos hc] at hf
      exact B_X11_hears_27  σ G hm  hf  w (lv_sub hl [] rfl)
    · rw [if_neg hc] at hf
      refine lv_iload_n G.hx G.hb (dcs_get dec_X11_hears_0 8 rfl) rfl (lv_at hl 3 rfl) ?_
      refine lv_if_lt (tgt := 27) G.hx G.hb (dcs_get dec_X11_hears_0 9 rfl) (by decide) (fun hc => ?_) (fun hc => ?_)
      · rw [if_pos hc] at hf
        exact B_X11_hears_27  σ G hm  hf  w (lv_sub hl [] rfl)
      · rw [if_neg hc] at hf
        refine lv_iload_n G.hx G.hb (dcs_get dec_X11_hears_0 10 rfl) rfl (lv_at hl 3 rfl) ?_
        refine lv_sipush (v := (9999 : Int32)) G.hx G.hb (dcs_get dec_X11_hears_0 11 rfl) (by decide) ?_
        refine lv_icmp_le (tgt := 29) G.hx G.hb (dcs_get dec_X11_hears_0 12 rfl) (by decide) (fun hc => ?_) (fun hc => ?_)
        · rw [if_pos hc] at hf
          refine lv_iload_n G.hx G.hb (dcs_get dec_X11_hears_0 15 rfl) rfl (lv_at hl 1 rfl) ?_
          refine lv_iload_n G.hx G.hb (dcs_get dec_X11_hears_0 16 rfl) rfl (lv_at hl 2 rfl) ?_
          refine lv_icmp_eq (tgt := 47) G.hx G.hb (dcs_get dec_X11_hears_0 17 rfl) (by decide) (fun hc => ?_) (fun hc => ?_)
          · rw [if_pos hc] at hf
            exact B_X11_hears_47  σ G hm  hf  w (lv_sub hl [] rfl)
          · rw [if_neg hc] at hf
            refine lv_aload_n G.hx G.hb (dcs_get dec_X11_hears_0 18 rfl) rfl (lv_at hl 0 rfl) ?_
            obtain ⟨z5, e_z5, ok_z5, hf⟩ := cR_some hf
            have k_z5 := okr_in ok_z5
            refine r_getr (k := 1) cls11 fi_11_1.1 fi_11_1.2 q_392 G w k_a0.1 k_a0.2 e_z5 (dcs_get dec_X11_hears_0 19 rfl) ?_
            refine lv_iload_n G.hx G.hb (dcs_get dec_X11_hears_0 20 rfl) rfl (lv_at hl 1 rfl) ?_
            refine lv_iload_n G.hx G.hb (dcs_get dec_X11_hears_0 21 rfl) rfl (lv_at hl 2 rfl) ?_
            refine lv_iload_n G.hx G.hb (dcs_get dec_X11_hears_0 22 rfl) rfl (lv_at hl 3 rfl) ?_
            obtain ⟨v7, σ8, h6, hf⟩ := cC_some hf
            refine a_i (k_VN (As := [.int l1, .int l2, .int l3]) (rest := []) cls7 lb_X7_lawTells lv_X7_lawTells nm_690 (C_X7_lawTells G.2.2.1 z5 l1 l2 l3 σ h6 ok_z5) ⟨(Nat.le_of_ble_eq_true rfl), (Nat.le_of_ble_eq_true rfl)⟩ G w k_z5.1 k_z5.2 rfl rfl hl.1 (Nat.le_of_ble_eq_true rfl) (dcs_get dec_X11_hears_0 23 rfl) ⟨Nat.le_refl _, Nat.le_refl _⟩) G w (fun H locs w => ?_)
            refine lv_if_eq (tgt := 51) G.hx G.hb (dcs_get dec_X11_hears_0 24 rfl) (by decide) (fun hc => ?_) (fun hc => ?_)
            · rw [if_pos hc] at hf
              refine lv_iconst (v := (0 : Int32)) G.hx G.hb (dcs_get dec_X11_hears_0 27 rfl) (by decide) ?_
              exact B_X11_hears_52 (0 : Int32) σ8 G hm  hf  w (lv_sub hl [] rfl)
            · rw [if_neg hc] at hf
              exact B_X11_hears_47  σ8 G hm  hf  w (lv_sub hl [] rfl)
        · rw [if_neg hc] at hf
          exact B_X11_hears_27  σ G hm  hf  w (lv_sub hl [] rfl)
end
set_option maxRecDepth 100000 in
set_option maxHeartbeats 4000000 in
theorem C_X11_hears {l : Launch} {D : va_G} {ay : Nat → ClassId} {ad : Nat → Nat} (hi : hInj NC ad) (a0 : Nat) (l1 : Int32) (l2 : Int32) (l3 : Int32) (σ : hSt) {r0 : Int32} {σ0 : hSt} (hf : F_X11_hears a0 l1 l2 l3 σ = some (r0, σ0)) (ok_a0 : okr kC NC 11 a0 = true) : hM l D ay kC NC ad yX11_hears cX11_hears 4 ((some .int)) (rmK 3 71) [.ref (ad a0), .int l1, .int l2, .int l3] σ (cI D ay kC NC ad r0 σ0) := by
  refine hM_in (by decide) hi (Nat.le_of_ble_eq_true rfl) ?_
  intro p e s m below meth c G hm w ls hl
  exact B_X11_hears_0 a0 l1 l2 l3 σ G hm ok_a0 hf w (lv_sub hl [0, 1, 2, 3] rfl)

/-! HillDrums.news(III)I -/
def DL_X11_news_0 : List (Nat × Instr × Nat) := [(0, .aload_n 0, 1), (1, .iload_n 1, 1), (2, .invokevirtual 120, 3), (5, .ifCond .eq 20, 3), (8, .aload_n 0, 1), (9, .iload_n 2, 1), (10, .invokevirtual 128, 3), (13, .ifCond .eq 12, 3), (16, .iload_n 3, 1), (17, .ifCond .lt 8, 3), (20, .iload_n 3, 1), (21, .iconst 4, 1), (22, .if_icmp .le 5, 3), (25, .iconst (-1), 1), (26, .ireturn, 1), (27, .aload_n 0, 1), (28, .getfield 42, 3), (31, .iload_n 1, 1), (32, .iload_n 2, 1), (33, .invokevirtual 131, 3), (36, .istore 4, 2), (38, .iload_n 3, 1), (39, .ifCond .ne 14, 3), (42, .iload 4, 2), (44, .ifCond .eq 7, 3), (47, .iconst 1, 1), (48, .goto 4, 3), (51, .iconst 0, 1), (52, .ireturn, 1), (53, .iload_n 1, 1), (54, .iload_n 2, 1), (55, .invokestatic 135, 3), (58, .istore 5, 2), (60, .iload_n 3, 1), (61, .iconst 4, 1), (62, .if_icmp .ne 16, 3), (65, .aload_n 0, 1), (66, .getfield 42, 3), (69, .invokevirtual 139, 3), (72, .iload 5, 2)]
set_option maxRecDepth 100000 in
theorem dec_X11_news_0 : dcs cX11_news DL_X11_news_0 = true := by decide +kernel
def DL_X11_news_1 : List (Nat × Instr × Nat) := [(74, .ishr, 1), (75, .iconst 1, 1), (76, .iand, 1), (77, .ireturn, 1), (78, .iload 4, 2), (80, .ifCond .ne 6, 3), (83, .bipush (-2), 2), (85, .ireturn, 1), (86, .iload_n 3, 1), (87, .iconst 1, 1), (88, .if_icmp .ne 14, 3), (91, .aload_n 0, 1), (92, .getfield 42, 3), (95, .getfield 143, 3), (98, .iload 5, 2), (100, .iaload, 1), (101, .ireturn, 1), (102, .iload_n 3, 1), (103, .iconst 2, 1), (104, .if_icmp .ne 16, 3), (107, .aload_n 0, 1), (108, .getfield 42, 3), (111, .getfield 147, 3), (114, .iload 5, 2), (116, .iaload, 1), (117, .goto 15, 3), (120, .aload_n 0, 1), (121, .getfield 42, 3), (124, .getfield 150, 3), (127, .iload 5, 2), (129, .ishr, 1), (130, .iconst 1, 1), (131, .iand, 1), (132, .ireturn, 1)]
set_option maxRecDepth 100000 in
theorem dec_X11_news_1 : dcs cX11_news DL_X11_news_1 = true := by decide +kernel
theorem lb_X11_news : lkB yX11_news cX11_news 6 ((some .int)) 3 := ⟨q_719, q_1, ⟨by decide, by decide⟩, by decide +kernel⟩
theorem lv_X11_news : lkV yX11_news := ⟨q_717, q_718⟩
def F_X11_news_25  (σ : hSt) : Option (Int32) :=
some ((-1 : Int32))
def F_X11_news_52 (s0 : Int32) (σ : hSt) : Option (Int32) :=
some (s0)
def F_X11_news_132 (s0 : Int32) (σ : hSt) : Option (Int32) :=
some (s0)
def F_X11_news (a0 : Nat) (l1 : Int32) (l2 : Int32) (l3 : Int32) (σ : hSt) : Option (Int32) :=
(F_X11_isHill a0 l1 σ).bind fun v2 =>
if v2 = 0 then (
F_X11_news_25  σ) else (
(F_X11_isNews a0 l2 σ).bind fun v4 =>
if v4 = 0 then (
F_X11_news_25  σ) else (
if l3 < 0 then (
F_X11_news_25  σ) else (
if l3 ≤ (4 : Int32) then (
cR (σ.2.2 a0 5) (okr kC NC 10) fun z5 =>
(F_X10_knows z5 l1 l2 σ).bind fun v7 =>
if l3 = 0 then (
if v7 = 0 then (
F_X11_news_52 (0 : Int32) σ) else (
F_X11_news_52 (1 : Int32) σ)) else (
(F_X11_pairOf l1 l2 σ).bind fun v9 =>
if l3 = (4 : Int32) then (
cR (σ.2.2 a0 5) (okr kC NC 10) fun z17 =>
(F_X10_clashing z17 σ).bind fun v19 =>
some ((v19 >>> (v9 &&& 31)) &&& (1 : Int32))) else (
if v7 = 0 then (
some ((-2 : Int32))) else (
if l3 = (1 : Int32) then (
cR (σ.2.2 a0 5) (okr kC NC 10) fun z14 =>
cR (σ.2.2 z14 9) (okr kC NC 101) fun z15 =>
cG (inb v9 (kC z15).2) <|
some (σ.1 z15 v9.toNatClampNeg)) else (
if l3 = (2 : Int32) then (
cR (σ.2.2 a0 5) (okr kC NC 10) fun z11 =>
cR (σ.2.2 z11 10) (okr kC NC 101) fun z12 =>
cG (inb v9 (kC z12).2) <|
F_X11_news_132 (σ.1 z12 v9.toNatClampNeg) σ) else (
cR (σ.2.2 a0 5) (okr kC NC 10) fun z10 =>
F_X11_news_132 (((σ.1 z10 2) >>> (v9 &&& 31)) &&& (1 : Int32)) σ)))))) else (
F_X11_news_25  σ))))
section
variable {p : Program} {l : Launch} {e : Env} {s : State} {m : MethodId} {args : Array Value} {below : List Frame} {meth : Method} {c : Code} {D : va_G} {ay : Nat → ClassId} {ad : Nat → Nat}
set_option maxRecDepth 100000 in
set_option maxHeartbeats 4000000 in
theorem B_X11_news_25 {H : Heap} {locs : List Loc} {ls : Array Slot} {r0 : Int32}  (σ : hSt) (G : Gx p m c cX11_news 6 s args RX11 D ay NC ad (aN NC ad)) (hm : meth.sig.returnType = (some .int) ∧ meth.locks = false)  (hf : F_X11_news_25  σ = some r0)  (w : Wd D ay kC NC ad (aN NC ad) s σ H locs) (hl : lv_has ls 6 []) : W p l e (rmK 2 43) s m args below meth c H locs 0 0 (MQ below (cI D ay kC NC ad r0 σ) args s 0 0 (aN NC ad)) (F0 m 25 ls []) := by
  unfold F_X11_news_25 at hf
  refine lv_iconst (v := (-1 : Int32)) G.hx G.hb (dcs_get dec_X11_news_0 13 rfl) (by decide) ?_
  have e9 := Option.some.inj hf
  exact r_iret G w hm e9 rfl (dcs_get dec_X11_news_0 14 rfl)
set_option maxRecDepth 100000 in
set_option maxHeartbeats 4000000 in
theorem B_X11_news_52 {H : Heap} {locs : List Loc} {ls : Array Slot} {r0 : Int32} (s0 : Int32) (σ : hSt) (G : Gx p m c cX11_news 6 s args RX11 D ay NC ad (aN NC ad)) (hm : meth.sig.returnType = (some .int) ∧ meth.locks = false)  (hf : F_X11_news_52 s0 σ = some r0)  (w : Wd D ay kC NC ad (aN NC ad) s σ H locs) (hl : lv_has ls 6 []) : W p l e (rmK 2 43) s m args below meth c H locs 0 0 (MQ below (cI D ay kC NC ad r0 σ) args s 0 0 (aN NC ad)) (F0 m 52 ls [.int s0]) := by
  unfold F_X11_news_52 at hf
  have e9 := Option.some.inj hf
  exact r_iret G w hm e9 rfl (dcs_get dec_X11_news_0 28 rfl)
set_option maxRecDepth 100000 in
set_option maxHeartbeats 4000000 in
theorem B_X11_news_132 {H : Heap} {locs : List Loc} {ls : Array Slot} {r0 : Int32} (s0 : Int32) (σ : hSt) (G : Gx p m c cX11_news 6 s args RX11 D ay NC ad (aN NC ad)) (hm : meth.sig.returnType = (some .int) ∧ meth.locks = false)  (hf : F_X11_news_132 s0 σ = some r0)  (w : Wd D ay kC NC ad (aN NC ad) s σ H locs) (hl : lv_has ls 6 []) : W p l e (rmK 2 43) s m args below meth c H locs 0 0 (MQ below (cI D ay kC NC ad r0 σ) args s 0 0 (aN NC ad)) (F0 m 132 ls [.int s0]) := by
  unfold F_X11_news_132 at hf
  have e9 := Option.some.inj hf
  exact r_iret G w hm e9 rfl (dcs_get dec_X11_news_1 33 rfl)
set_option maxRecDepth 100000 in
set_option maxHeartbeats 4000000 in
theorem B_X11_news_0 {H : Heap} {locs : List Loc} {ls : Array Slot} {r0 : Int32} (a0 : Nat) (l1 : Int32) (l2 : Int32) (l3 : Int32) (σ : hSt) (G : Gx p m c cX11_news 6 s args RX11 D ay NC ad (aN NC ad)) (hm : meth.sig.returnType = (some .int) ∧ meth.locks = false) (ok_a0 : okr kC NC 11 a0 = true) (hf : F_X11_news a0 l1 l2 l3 σ = some r0)  (w : Wd D ay kC NC ad (aN NC ad) s σ H locs) (hl : lv_has ls 6 [(0, .ref (ad a0)), (1, .int l1), (2, .int l2), (3, .int l3)]) : W p l e (rmK 2 43) s m args below meth c H locs 0 0 (MQ below (cI D ay kC NC ad r0 σ) args s 0 0 (aN NC ad)) (F0 m 0 ls []) := by
  have k_a0 := okr_in ok_a0
  unfold F_X11_news at hf
  refine lv_aload_n G.hx G.hb (dcs_get dec_X11_news_0 0 rfl) rfl (lv_at hl 0 rfl) ?_
  refine lv_iload_n G.hx G.hb (dcs_get dec_X11_news_0 1 rfl) rfl (lv_at hl 1 rfl) ?_
  obtain ⟨v2, h1, hf⟩ := cB_some hf
  refine a_i (k_V (As := [.int l1]) (rest := []) cls11 lb_X11_isHill lv_X11_isHill q_686 (C_X11_isHill G.2.2.1 a0 l1 σ h1 ok_a0) ⟨(Nat.le_of_ble_eq_true rfl), (Nat.le_of_ble_eq_true rfl)⟩ G w k_a0.1 k_a0.2 rfl rfl hl.1 (Nat.le_of_ble_eq_true rfl) (dcs_get dec_X11_news_0 2 rfl) ⟨Nat.le_refl _, Nat.le_refl _⟩) G w (fun H locs w => ?_)
  refine lv_if_eq (tgt := 25) G.hx G.hb (dcs_get dec_X11_news_0 3 rfl) (by decide) (fun hc => ?_) (fun hc => ?_)
  · rw [if_pos hc] at hf
    exact B_X11_news_25  σ G hm  hf  w (lv_sub hl [] rfl)
  · rw [if_neg hc] at hf
    refine lv_aload_n G.hx G.hb (dcs_get dec_X11_news_0 4 rfl) rfl (lv_at hl 0 rfl) ?_
    refine lv_iload_n G.hx G.hb (dcs_get dec_X11_news_0 5 rfl) rfl (lv_at hl 2 rfl) ?_
    obtain ⟨v4, h3, hf⟩ := cB_some hf
    refine a_i (k_V (As := [.int l2]) (rest := []) cls11 lb_X11_isNews lv_X11_isNews q_720 (C_X11_isNews G.2.2.1 a0 l2 σ h3 ok_a0) ⟨(Nat.le_of_ble_eq_true rfl), (Nat.le_of_ble_eq_true rfl)⟩ G w k_a0.1 k_a0.2 rfl rfl hl.1 (Nat.le_of_ble_eq_true rfl) (dcs_get dec_X11_news_0 6 rfl) ⟨Nat.le_refl _, Nat.le_refl _⟩) G w (fun H locs w => ?_)
    refine lv_if_eq (tgt := 25) G.hx G.hb (dcs_get dec_X11_news_0 7 rfl) (by decide) (fun hc => ?_) (fun hc => ?_)
    · rw [if_pos hc] at hf
      exact B_X11_news_25  σ G hm  hf  w (lv_sub hl [] rfl)
    · rw [if_neg hc] at hf
      refine lv_iload_n G.hx G.hb (dcs_get dec_X11_news_0 8 rfl) rfl (lv_at hl 3 rfl) ?_
      refine lv_if_lt (tgt := 25) G.hx G.hb (dcs_get dec_X11_news_0 9 rfl) (by decide) (fun hc => ?_) (fun hc => ?_)
      · rw [if_pos hc] at hf
        exact B_X11_news_25  σ G hm  hf  w (lv_sub hl [] rfl)
      · rw [if_neg hc] at hf
        refine lv_iload_n G.hx G.hb (dcs_get dec_X11_news_0 10 rfl) rfl (lv_at hl 3 rfl) ?_
        refine lv_iconst (v := (4 : Int32)) G.hx G.hb (dcs_get dec_X11_news_0 11 rfl) (by decide) ?_
        refine lv_icmp_le (tgt := 27) G.hx G.hb (dcs_get dec_X11_news_0 12 rfl) (by decide) (fun hc => ?_) (fun hc => ?_)
        · rw [if_pos hc] at hf
          refine lv_aload_n G.hx G.hb (dcs_get dec_X11_news_0 15 rfl) rfl (lv_at hl 0 rfl) ?_
          obtain ⟨z5, e_z5, ok_z5, hf⟩ := cR_some hf
          have k_z5 := okr_in ok_z5
          refine r_getr (k := 5) cls11 fi_11_5.1 fi_11_5.2 q_396 G w k_a0.1 k_a0.2 e_z5 (dcs_get dec_X11_news_0 16 rfl) ?_
          refine lv_iload_n G.hx G.hb (dcs_get dec_X11_news_0 17 rfl) rfl (lv_at hl 1 rfl) ?_
          refine lv_iload_n G.hx G.hb (dcs_get dec_X11_news_0 18 rfl) rfl (lv_at hl 2 rfl) ?_
          obtain ⟨v7, h6, hf⟩ := cB_some hf
          refine a_i (k_VN (As := [.int l1, .int l2]) (rest := []) cls10 lb_X10_knows lv_X10_knows nm_724 (C_X10_knows G.2.2.1 z5 l1 l2 σ h6 ok_z5) ⟨(Nat.le_of_ble_eq_true rfl), (Nat.le_of_ble_eq_true rfl)⟩ G w k_z5.1 k_z5.2 rfl rfl hl.1 (Nat.le_of_ble_eq_true rfl) (dcs_get dec_X11_news_0 19 rfl) ⟨Nat.le_refl _, Nat.le_refl _⟩) G w (fun H locs w => ?_)
          refine lv_istore (lv' := [(4, .int v7), (0, .ref (ad a0)), (1, .int l1), (2, .int l2), (3, .int l3)]) G.hx G.hb (dcs_get dec_X11_news_0 20 rfl) hl (by decide) rfl (fun ls hl => ?_)
          refine lv_iload_n G.hx G.hb (dcs_get dec_X11_news_0 21 rfl) rfl (lv_at hl 4 rfl) ?_
          refine lv_if_ne (tgt := 53) G.hx G.hb (dcs_get dec_X11_news_0 22 rfl) (by decide) (fun hc => ?_) (fun hc => ?_)
          · rw [if_neg hc] at hf
            refine lv_iload_n G.hx G.hb (dcs_get dec_X11_news_0 29 rfl) rfl (lv_at hl 2 rfl) ?_
            refine lv_iload_n G.hx G.hb (dcs_get dec_X11_news_0 30 rfl) rfl (lv_at hl 3 rfl) ?_
            obtain ⟨v9, h8, hf⟩ := cB_some hf
            refine a_i (k_S (As := [.int l1, .int l2]) (rest := []) lb_X11_pairOf q_389 q_728 (C_X11_pairOf G.2.2.1 l1 l2 σ h8 ) ⟨(Nat.le_of_ble_eq_true rfl), (Nat.le_of_ble_eq_true rfl)⟩ G w rfl rfl hl.1 (Nat.le_of_ble_eq_true rfl) (dcs_get dec_X11_news_0 31 rfl) ⟨Nat.le_refl _, Nat.le_refl _⟩) G w (fun H locs w => ?_)
            refine lv_istore (lv' := [(5, .int v9), (4, .int v7), (0, .ref (ad a0)), (1, .int l1), (2, .int l2), (3, .int l3)]) G.hx G.hb (dcs_get dec_X11_news_0 32 rfl) hl (by decide) rfl (fun ls hl => ?_)
            refine lv_iload_n G.hx G.hb (dcs_get dec_X11_news_0 33 rfl) rfl (lv_at hl 5 rfl) ?_
            refine lv_iconst (v := (4 : Int32)) G.hx G.hb (dcs_get dec_X11_news_0 34 rfl) (by decide) ?_
            refine lv_icmp_ne (tgt := 78) G.hx G.hb (dcs_get dec_X11_news_0 35 rfl) (by decide) (fun hc => ?_) (fun hc => ?_)
            · rw [if_neg hc] at hf
              refine lv_iload G.hx G.hb (dcs_get dec_X11_news_1 4 rfl) (lv_at hl 1 rfl) ?_
              refine lv_if_ne (tgt := 86) G.hx G.hb (dcs_get dec_X11_news_1 5 rfl) (by decide) (fun hc => ?_) (fun hc => ?_)
              · rw [if_neg hc] at hf
                refine lv_iload_n G.hx G.hb (dcs_get dec_X11_news_1 8 rfl) rfl (lv_at hl 5 rfl) ?_
                refine lv_iconst (v := (1 : Int32)) G.hx G.hb (dcs_get dec_X11_news_1 9 rfl) (by decide) ?_
                refine lv_icmp_ne (tgt := 102) G.hx G.hb (dcs_get dec_X11_news_1 10 rfl) (by decide) (fun hc => ?_) (fun hc => ?_)
                · rw [if_neg hc] at hf
                  refine lv_iload_n G.hx G.hb (dcs_get dec_X11_news_1 17 rfl) rfl (lv_at hl 5 rfl) ?_
                  refine lv_iconst (v := (2 : Int32)) G.hx G.hb (dcs_get dec_X11_news_1 18 rfl) (by decide) ?_
                  refine lv_icmp_ne (tgt := 120) G.hx G.hb (dcs_get dec_X11_news_1 19 rfl) (by decide) (fun hc => ?_) (fun hc => ?_)
                  · rw [if_neg hc] at hf
                    refine lv_aload_n G.hx G.hb (dcs_get dec_X11_news_1 26 rfl) rfl (lv_at hl 2 rfl) ?_
                    obtain ⟨z10, e_z10, ok_z10, hf⟩ := cR_some hf
                    have k_z10 := okr_in ok_z10
                    refine r_getr (k := 5) cls11 fi_11_5.1 fi_11_5.2 q_396 G w k_a0.1 k_a0.2 e_z10 (dcs_get dec_X11_news_1 27 rfl) ?_
                    refine r_getiN (k := 2) cls10 fi_10_2.1 fi_10_2.2 nf_241 G w k_z10.1 k_z10.2 (dcs_get dec_X11_news_1 28 rfl) ?_
                    refine lv_iload G.hx G.hb (dcs_get dec_X11_news_1 29 rfl) (lv_at hl 0 rfl) ?_
                    refine lv_ishr G.hx G.hb (dcs_get dec_X11_news_1 30 rfl) ?_
                    refine lv_iconst (v := (1 : Int32)) G.hx G.hb (dcs_get dec_X11_news_1 31 rfl) (by decide) ?_
                    refine lv_iand G.hx G.hb (dcs_get dec_X11_news_1 32 rfl) ?_
                    exact B_X11_news_132 (((σ.1 z10 2) >>> (v9 &&& 31)) &&& (1 : Int32)) σ G hm  hf  w (lv_sub hl [] rfl)
                  · rw [if_pos hc] at hf
                    refine lv_aload_n G.hx G.hb (dcs_get dec_X11_news_1 20 rfl) rfl (lv_at hl 2 rfl) ?_
                    obtain ⟨z11, e_z11, ok_z11, hf⟩ := cR_some hf
                    have k_z11 := okr_in ok_z11
                    refine r_getr (k := 5) cls11 fi_11_5.1 fi_11_5.2 q_396 G w k_a0.1 k_a0.2 e_z11 (dcs_get dec_X11_news_1 21 rfl) ?_
                    obtain ⟨z12, e_z12, ok_z12, hf⟩ := cR_some hf
                    have k_z12 := okr_in ok_z12
                    refine r_getrN (k := 10) cls10 fi_10_10.1 fi_10_10.2 nf_254 G w k_z11.1 k_z11.2 e_z12 (dcs_get dec_X11_news_1 22 rfl) ?_
                    refine lv_iload G.hx G.hb (dcs_get dec_X11_news_1 23 rfl) (lv_at hl 0 rfl) ?_
                    obtain ⟨h13, hf⟩ := cG_some hf
                    refine r_iald G w k_z12.1 k_z12.2 h13 (dcs_get dec_X11_news_1 24 rfl) ?_
                    refine lv_goto (tgt := 132) G.hx G.hb (dcs_get dec_X11_news_1 25 rfl) (by decide) ?_
                    exact B_X11_news_132 (σ.1 z12 v9.toNatClampNeg) σ G hm  hf  w (lv_sub hl [] rfl)
                · rw [if_pos hc] at hf
                  refine lv_aload_n G.hx G.hb (dcs_get dec_X11_news_1 11 rfl) rfl (lv_at hl 2 rfl) ?_
                  obtain ⟨z14, e_z14, ok_z14, hf⟩ := cR_some hf
                  have k_z14 := okr_in ok_z14
                  refine r_getr (k := 5) cls11 fi_11_5.1 fi_11_5.2 q_396 G w k_a0.1 k_a0.2 e_z14 (dcs_get dec_X11_news_1 12 rfl) ?_
                  obtain ⟨z15, e_z15, ok_z15, hf⟩ := cR_some hf
                  have k_z15 := okr_in ok_z15
                  refine r_getrN (k := 9) cls10 fi_10_9.1 fi_10_9.2 nf_252 G w k_z14.1 k_z14.2 e_z15 (dcs_get dec_X11_news_1 13 rfl) ?_
                  refine lv_iload G.hx G.hb (dcs_get dec_X11_news_1 14 rfl) (lv_at hl 0 rfl) ?_
                  obtain ⟨h16, hf⟩ := cG_some hf
                  refine r_iald G w k_z15.1 k_z15.2 h16 (dcs_get dec_X11_news_1 15 rfl) ?_
                  have e9 := Option.some.inj hf
                  exact r_iret G w hm e9 rfl (dcs_get dec_X11_news_1 16 rfl)
              · rw [if_pos hc] at hf
                refine lv_bipush (v := (-2 : Int32)) G.hx G.hb (dcs_get dec_X11_news_1 6 rfl) (by decide) ?_
                have e9 := Option.some.inj hf
                exact r_iret G w hm e9 rfl (dcs_get dec_X11_news_1 7 rfl)
            · rw [if_pos hc] at hf
              refine lv_aload_n G.hx G.hb (dcs_get dec_X11_news_0 36 rfl) rfl (lv_at hl 2 rfl) ?_
              obtain ⟨z17, e_z17, ok_z17, hf⟩ := cR_some hf
              have k_z17 := okr_in ok_z17
              refine r_getr (k := 5) cls11 fi_11_5.1 fi_11_5.2 q_396 G w k_a0.1 k_a0.2 e_z17 (dcs_get dec_X11_news_0 37 rfl) ?_
              obtain ⟨v19, h18, hf⟩ := cB_some hf
              refine a_i (k_VN (As := []) (rest := []) cls10 lb_X10_clashing lv_X10_clashing nm_729 (C_X10_clashing G.2.2.1 z17 σ h18 ok_z17) ⟨(Nat.le_of_ble_eq_true rfl), (Nat.le_of_ble_eq_true rfl)⟩ G w k_z17.1 k_z17.2 rfl rfl hl.1 (Nat.le_of_ble_eq_true rfl) (dcs_get dec_X11_news_0 38 rfl) ⟨Nat.le_refl _, Nat.le_refl _⟩) G w (fun H locs w => ?_)
              refine lv_iload G.hx G.hb (dcs_get dec_X11_news_0 39 rfl) (lv_at hl 0 rfl) ?_
              refine lv_ishr G.hx G.hb (dcs_get dec_X11_news_1 0 rfl) ?_
              refine lv_iconst (v := (1 : Int32)) G.hx G.hb (dcs_get dec_X11_news_1 1 rfl) (by decide) ?_
              refine lv_iand G.hx G.hb (dcs_get dec_X11_news_1 2 rfl) ?_
              have e9 := Option.some.inj hf
              exact r_iret G w hm e9 rfl (dcs_get dec_X11_news_1 3 rfl)
          · rw [if_pos hc] at hf
            refine lv_iload G.hx G.hb (dcs_get dec_X11_news_0 23 rfl) (lv_at hl 0 rfl) ?_
            refine lv_if_eq (tgt := 51) G.hx G.hb (dcs_get dec_X11_news_0 24 rfl) (by decide) (fun hc => ?_) (fun hc => ?_)
            · rw [if_pos hc] at hf
              refine lv_iconst (v := (0 : Int32)) G.hx G.hb (dcs_get dec_X11_news_0 27 rfl) (by decide) ?_
              exact B_X11_news_52 (0 : Int32) σ G hm  hf  w (lv_sub hl [] rfl)
            · rw [if_neg hc] at hf
              refine lv_iconst (v := (1 : Int32)) G.hx G.hb (dcs_get dec_X11_news_0 25 rfl) (by decide) ?_
              refine lv_goto (tgt := 52) G.hx G.hb (dcs_get dec_X11_news_0 26 rfl) (by decide) ?_
              exact B_X11_news_52 (1 : Int32) σ G hm  hf  w (lv_sub hl [] rfl)
        · rw [if_neg hc] at hf
          exact B_X11_news_25  σ G hm  hf  w (lv_sub hl [] rfl)
end
set_option maxRecDepth 100000 in
set_option maxHeartbeats 4000000 in
theorem C_X11_news {l : Launch} {D : va_G} {ay : Nat → ClassId} {ad : Nat → Nat} (hi : hInj NC ad) (a0 : Nat) (l1 : Int32) (l2 : Int32) (l3 : Int32) (σ : hSt) {r0 : Int32} (hf : F_X11_news a0 l1 l2 l3 σ = some r0) (ok_a0 : okr kC NC 11 a0 = true) : hM l D ay kC NC ad yX11_news cX11_news 6 ((some .int)) (rmK 2 43) [.ref (ad a0), .int l1, .int l2, .int l3] σ (cI D ay kC NC ad r0 σ) := by
  refine hM_in (by decide) hi (Nat.le_of_ble_eq_true rfl) ?_
  intro p e s m below meth c G hm w ls hl
  exact B_X11_news_0 a0 l1 l2 l3 σ G hm ok_a0 hf w (lv_sub hl [0, 1, 2, 3] rfl)

/-! HillDrums.may(IIZ)I -/
def DL_X11_may_0 : List (Nat × Instr × Nat) := [(0, .aload_n 0, 1), (1, .iload_n 1, 1), (2, .invokevirtual 120, 3), (5, .ifCond .eq 11, 3), (8, .aload_n 0, 1), (9, .iload_n 2, 1), (10, .invokevirtual 128, 3), (13, .ifCond .ne 5, 3), (16, .iconst (-1), 1), (17, .ireturn, 1), (18, .aload_n 0, 1), (19, .getfield 42, 3), (22, .iload_n 1, 1), (23, .iload_n 2, 1), (24, .invokevirtual 182, 3), (27, .ifCond .ne 6, 3), (30, .bipush (-3), 2), (32, .ireturn, 1), (33, .aload_n 0, 1), (34, .getfield 42, 3), (37, .aload_n 0, 1), (38, .getfield 19, 3), (41, .getfield 185, 3), (44, .iload_n 1, 1), (45, .iload_n 2, 1), (46, .iload_n 3, 1), (47, .invokevirtual 188, 3), (50, .ifCond .eq 7, 3), (53, .iconst 0, 1), (54, .goto 4, 3), (57, .iconst 1, 1), (58, .ireturn, 1)]
set_option maxRecDepth 100000 in
theorem dec_X11_may_0 : dcs cX11_may DL_X11_may_0 = true := by decide +kernel
theorem lb_X11_may : lkB yX11_may cX11_may 4 ((some .int)) 3 := ⟨q_740, q_1, ⟨by decide, by decide⟩, by decide +kernel⟩
theorem lv_X11_may : lkV yX11_may := ⟨q_738, q_739⟩
def F_X11_may_16  (σ : hSt) : Option (Int32) :=
some ((-1 : Int32))
def F_X11_may_58 (s0 : Int32) (σ : hSt) : Option (Int32) :=
some (s0)
def F_X11_may (a0 : Nat) (l1 : Int32) (l2 : Int32) (l3 : Int32) (σ : hSt) : Option (Int32) :=
(F_X11_isHill a0 l1 σ).bind fun v2 =>
if v2 = 0 then (
F_X11_may_16  σ) else (
(F_X11_isNews a0 l2 σ).bind fun v4 =>
if v4 = 0 then (
F_X11_may_16  σ) else (
cR (σ.2.2 a0 5) (okr kC NC 10) fun z5 =>
(F_X10_isAble z5 l1 l2 σ).bind fun v7 =>
if v7 = 0 then (
some ((-3 : Int32))) else (
cR (σ.2.2 a0 5) (okr kC NC 10) fun z8 =>
cR (σ.2.2 a0 1) (okr kC NC 7) fun z9 =>
(F_X10_isAnswer z8 (σ.1 z9 8) l1 l2 l3 σ).bind fun v11 =>
if v11 = 0 then (
F_X11_may_58 (1 : Int32) σ) else (
F_X11_may_58 (0 : Int32) σ))))
section
variable {p : Program} {l : Launch} {e : Env} {s : State} {m : MethodId} {args : Array Value} {below : List Frame} {meth : Method} {c : Code} {D : va_G} {ay : Nat → ClassId} {ad : Nat → Nat}
set_option maxRecDepth 100000 in
set_option maxHeartbeats 4000000 in
theorem B_X11_may_16 {H : Heap} {locs : List Loc} {ls : Array Slot} {r0 : Int32}  (σ : hSt) (G : Gx p m c cX11_may 4 s args RX11 D ay NC ad (aN NC ad)) (hm : meth.sig.returnType = (some .int) ∧ meth.locks = false)  (hf : F_X11_may_16  σ = some r0)  (w : Wd D ay kC NC ad (aN NC ad) s σ H locs) (hl : lv_has ls 4 []) : W p l e (rmK 3 65) s m args below meth c H locs 0 0 (MQ below (cI D ay kC NC ad r0 σ) args s 0 0 (aN NC ad)) (F0 m 16 ls []) := by
  unfold F_X11_may_16 at hf
  refine lv_iconst (v := (-1 : Int32)) G.hx G.hb (dcs_get dec_X11_may_0 8 rfl) (by decide) ?_
  have e9 := Option.some.inj hf
  exact r_iret G w hm e9 rfl (dcs_get dec_X11_may_0 9 rfl)
set_option maxRecDepth 100000 in
set_option maxHeartbeats 4000000 in
theorem B_X11_may_58 {H : Heap} {locs : List Loc} {ls : Array Slot} {r0 : Int32} (s0 : Int32) (σ : hSt) (G : Gx p m c cX11_may 4 s args RX11 D ay NC ad (aN NC ad)) (hm : meth.sig.returnType = (some .int) ∧ meth.locks = false)  (hf : F_X11_may_58 s0 σ = some r0)  (w : Wd D ay kC NC ad (aN NC ad) s σ H locs) (hl : lv_has ls 4 []) : W p l e (rmK 3 65) s m args below meth c H locs 0 0 (MQ below (cI D ay kC NC ad r0 σ) args s 0 0 (aN NC ad)) (F0 m 58 ls [.int s0]) := by
  unfold F_X11_may_58 at hf
  have e9 := Option.some.inj hf
  exact r_iret G w hm e9 rfl (dcs_get dec_X11_may_0 31 rfl)
set_option maxRecDepth 100000 in
set_option maxHeartbeats 4000000 in
theorem B_X11_may_0 {H : Heap} {locs : List Loc} {ls : Array Slot} {r0 : Int32} (a0 : Nat) (l1 : Int32) (l2 : Int32) (l3 : Int32) (σ : hSt) (G : Gx p m c cX11_may 4 s args RX11 D ay NC ad (aN NC ad)) (hm : meth.sig.returnType = (some .int) ∧ meth.locks = false) (ok_a0 : okr kC NC 11 a0 = true) (hf : F_X11_may a0 l1 l2 l3 σ = some r0)  (w : Wd D ay kC NC ad (aN NC ad) s σ H locs) (hl : lv_has ls 4 [(0, .ref (ad a0)), (1, .int l1), (2, .int l2), (3, .int l3)]) : W p l e (rmK 3 65) s m args below meth c H locs 0 0 (MQ below (cI D ay kC NC ad r0 σ) args s 0 0 (aN NC ad)) (F0 m 0 ls []) := by
  have k_a0 := okr_in ok_a0
  unfold F_X11_may at hf
  refine lv_aload_n G.hx G.hb (dcs_get dec_X11_may_0 0 rfl) rfl (lv_at hl 0 rfl) ?_
  refine lv_iload_n G.hx G.hb (dcs_get dec_X11_may_0 1 rfl) rfl (lv_at hl 1 rfl) ?_
  obtain ⟨v2, h1, hf⟩ := cB_some hf
  refine a_i (k_V (As := [.int l1]) (rest := []) cls11 lb_X11_isHill lv_X11_isHill q_686 (C_X11_isHill G.2.2.1 a0 l1 σ h1 ok_a0) ⟨(Nat.le_of_ble_eq_true rfl), (Nat.le_of_ble_eq_true rfl)⟩ G w k_a0.1 k_a0.2 rfl rfl hl.1 (Nat.le_of_ble_eq_true rfl) (dcs_get dec_X11_may_0 2 rfl) ⟨Nat.le_refl _, Nat.le_refl _⟩) G w (fun H locs w => ?_)
  refine lv_if_eq (tgt := 16) G.hx G.hb (dcs_get dec_X11_may_0 3 rfl) (by decide) (fun hc => ?_) (fun hc => ?_)
  · rw [if_pos hc] at hf
    exact B_X11_may_16  σ G hm  hf  w (lv_sub hl [] rfl)
  · rw [if_neg hc] at hf
    refine lv_aload_n G.hx G.hb (dcs_get dec_X11_may_0 4 rfl) rfl (lv_at hl 0 rfl) ?_
    refine lv_iload_n G.hx G.hb (dcs_get dec_X11_may_0 5 rfl) rfl (lv_at hl 2 rfl) ?_
    obtain ⟨v4, h3, hf⟩ := cB_some hf
    refine a_i (k_V (As := [.int l2]) (rest := []) cls11 lb_X11_isNews lv_X11_isNews q_720 (C_X11_isNews G.2.2.1 a0 l2 σ h3 ok_a0) ⟨(Nat.le_of_ble_eq_true rfl), (Nat.le_of_ble_eq_true rfl)⟩ G w k_a0.1 k_a0.2 rfl rfl hl.1 (Nat.le_of_ble_eq_true rfl) (dcs_get dec_X11_may_0 6 rfl) ⟨Nat.le_refl _, Nat.le_refl _⟩) G w (fun H locs w => ?_)
    refine lv_if_ne (tgt := 18) G.hx G.hb (dcs_get dec_X11_may_0 7 rfl) (by decide) (fun hc => ?_) (fun hc => ?_)
    · rw [if_neg hc] at hf
      refine lv_aload_n G.hx G.hb (dcs_get dec_X11_may_0 10 rfl) rfl (lv_at hl 0 rfl) ?_
      obtain ⟨z5, e_z5, ok_z5, hf⟩ := cR_some hf
      have k_z5 := okr_in ok_z5
      refine r_getr (k := 5) cls11 fi_11_5.1 fi_11_5.2 q_396 G w k_a0.1 k_a0.2 e_z5 (dcs_get dec_X11_may_0 11 rfl) ?_
      refine lv_iload_n G.hx G.hb (dcs_get dec_X11_may_0 12 rfl) rfl (lv_at hl 1 rfl) ?_
      refine lv_iload_n G.hx G.hb (dcs_get dec_X11_may_0 13 rfl) rfl (lv_at hl 2 rfl) ?_
      obtain ⟨v7, h6, hf⟩ := cB_some hf
      refine a_i (k_VN (As := [.int l1, .int l2]) (rest := []) cls10 lb_X10_isAble lv_X10_isAble nm_741 (C_X10_isAble G.2.2.1 z5 l1 l2 σ h6 ok_z5) ⟨(Nat.le_of_ble_eq_true rfl), (Nat.le_of_ble_eq_true rfl)⟩ G w k_z5.1 k_z5.2 rfl rfl hl.1 (Nat.le_of_ble_eq_true rfl) (dcs_get dec_X11_may_0 14 rfl) ⟨Nat.le_refl _, Nat.le_refl _⟩) G w (fun H locs w => ?_)
      refine lv_if_ne (tgt := 33) G.hx G.hb (dcs_get dec_X11_may_0 15 rfl) (by decide) (fun hc => ?_) (fun hc => ?_)
      · rw [if_neg hc] at hf
        refine lv_aload_n G.hx G.hb (dcs_get dec_X11_may_0 18 rfl) rfl (lv_at hl 0 rfl) ?_
        obtain ⟨z8, e_z8, ok_z8, hf⟩ := cR_some hf
        have k_z8 := okr_in ok_z8
        refine r_getr (k := 5) cls11 fi_11_5.1 fi_11_5.2 q_396 G w k_a0.1 k_a0.2 e_z8 (dcs_get dec_X11_may_0 19 rfl) ?_
        refine lv_aload_n G.hx G.hb (dcs_get dec_X11_may_0 20 rfl) rfl (lv_at hl 0 rfl) ?_
        obtain ⟨z9, e_z9, ok_z9, hf⟩ := cR_some hf
        have k_z9 := okr_in ok_z9
        refine r_getr (k := 1) cls11 fi_11_1.1 fi_11_1.2 q_392 G w k_a0.1 k_a0.2 e_z9 (dcs_get dec_X11_may_0 21 rfl) ?_
        refine r_getiN (k := 8) cls7 fi_7_8.1 fi_7_8.2 nf_120 G w k_z9.1 k_z9.2 (dcs_get dec_X11_may_0 22 rfl) ?_
        refine lv_iload_n G.hx G.hb (dcs_get dec_X11_may_0 23 rfl) rfl (lv_at hl 1 rfl) ?_
        refine lv_iload_n G.hx G.hb (dcs_get dec_X11_may_0 24 rfl) rfl (lv_at hl 2 rfl) ?_
        refine lv_iload_n G.hx G.hb (dcs_get dec_X11_may_0 25 rfl) rfl (lv_at hl 3 rfl) ?_
        obtain ⟨v11, h10, hf⟩ := cB_some hf
        refine a_i (k_VN (As := [.int (σ.1 z9 8), .int l1, .int l2, .int l3]) (rest := []) cls10 lb_X10_isAnswer lv_X10_isAnswer nm_746 (C_X10_isAnswer G.2.2.1 z8 (σ.1 z9 8) l1 l2 l3 σ h10 ok_z8) ⟨(Nat.le_of_ble_eq_true rfl), (Nat.le_of_ble_eq_true rfl)⟩ G w k_z8.1 k_z8.2 rfl rfl hl.1 (Nat.le_of_ble_eq_true rfl) (dcs_get dec_X11_may_0 26 rfl) ⟨Nat.le_refl _, Nat.le_refl _⟩) G w (fun H locs w => ?_)
        refine lv_if_eq (tgt := 57) G.hx G.hb (dcs_get dec_X11_may_0 27 rfl) (by decide) (fun hc => ?_) (fun hc => ?_)
        · rw [if_pos hc] at hf
          refine lv_iconst (v := (1 : Int32)) G.hx G.hb (dcs_get dec_X11_may_0 30 rfl) (by decide) ?_
          exact B_X11_may_58 (1 : Int32) σ G hm  hf  w (lv_sub hl [] rfl)
        · rw [if_neg hc] at hf
          refine lv_iconst (v := (0 : Int32)) G.hx G.hb (dcs_get dec_X11_may_0 28 rfl) (by decide) ?_
          refine lv_goto (tgt := 58) G.hx G.hb (dcs_get dec_X11_may_0 29 rfl) (by decide) ?_
          exact B_X11_may_58 (0 : Int32) σ G hm  hf  w (lv_sub hl [] rfl)
      · rw [if_pos hc] at hf
        refine lv_bipush (v := (-3 : Int32)) G.hx G.hb (dcs_get dec_X11_may_0 16 rfl) (by decide) ?_
        have e9 := Option.some.inj hf
        exact r_iret G w hm e9 rfl (dcs_get dec_X11_may_0 17 rfl)
    · rw [if_pos hc] at hf
      exact B_X11_may_16  σ G hm  hf  w (lv_sub hl [] rfl)
end
set_option maxRecDepth 100000 in
set_option maxHeartbeats 4000000 in
theorem C_X11_may {l : Launch} {D : va_G} {ay : Nat → ClassId} {ad : Nat → Nat} (hi : hInj NC ad) (a0 : Nat) (l1 : Int32) (l2 : Int32) (l3 : Int32) (σ : hSt) {r0 : Int32} (hf : F_X11_may a0 l1 l2 l3 σ = some r0) (ok_a0 : okr kC NC 11 a0 = true) : hM l D ay kC NC ad yX11_may cX11_may 4 ((some .int)) (rmK 3 65) [.ref (ad a0), .int l1, .int l2, .int l3] σ (cI D ay kC NC ad r0 σ) := by
  refine hM_in (by decide) hi (Nat.le_of_ble_eq_true rfl) ?_
  intro p e s m below meth c G hm w ls hl
  exact B_X11_may_0 a0 l1 l2 l3 σ G hm ok_a0 hf w (lv_sub hl [0, 1, 2, 3] rfl)

/-! HillDrums.drum(IIZ)I -/
def DL_X11_drum_0 : List (Nat × Instr × Nat) := [(0, .aload_n 0, 1), (1, .iload_n 1, 1), (2, .iload_n 2, 1), (3, .iload_n 3, 1), (4, .invokevirtual 153, 3), (7, .istore 4, 2), (9, .iload 4, 2), (11, .iconst 1, 1), (12, .if_icmp .eq 16, 3), (15, .iload 4, 2), (17, .ifCond .ne 8, 3), (20, .bipush (-2), 2), (22, .goto 5, 3), (25, .iload 4, 2), (27, .ireturn, 1), (28, .aload_n 0, 1), (29, .getfield 19, 3), (32, .aload_n 0, 1), (33, .getfield 42, 3), (36, .getfield 157, 3), (39, .invokevirtual 160, 3), (42, .iload_n 1, 1), (43, .invokestatic 164, 3), (46, .istore 5, 2), (48, .aload_n 0, 1), (49, .getfield 52, 3), (52, .aload_n 0, 1), (53, .getfield 42, 3), (56, .invokevirtual 168, 3), (59, .aload_n 0, 1), (60, .getfield 42, 3), (63, .iload_n 1, 1), (64, .iload_n 2, 1), (65, .iload_n 3, 1), (66, .iload 5, 2), (68, .invokevirtual 172, 3), (71, .iload 5, 2), (73, .iconst 1, 1), (74, .iload_n 1, 1), (75, .ishl, 1)]
set_option maxRecDepth 100000 in
theorem dec_X11_drum_0 : dcs cX11_drum DL_X11_drum_0 = true := by decide +kernel
def DL_X11_drum_1 : List (Nat × Instr × Nat) := [(76, .iconst (-1), 1), (77, .ixor, 1), (78, .iand, 1), (79, .invokestatic 176, 3), (82, .ireturn, 1)]
set_option maxRecDepth 100000 in
theorem dec_X11_drum_1 : dcs cX11_drum DL_X11_drum_1 = true := by decide +kernel
theorem lb_X11_drum : lkB yX11_drum cX11_drum 6 ((some .int)) 3 := ⟨q_736, q_1, ⟨by decide, by decide⟩, by decide +kernel⟩
theorem lv_X11_drum : lkV yX11_drum := ⟨q_734, q_735⟩
def F_X11_drum_27 (s0 : Int32) (σ : hSt) : Option (Int32 × hSt) :=
some ((s0, σ))
def F_X11_drum (a0 : Nat) (l1 : Int32) (l2 : Int32) (l3 : Int32) (σ : hSt) : Option (Int32 × hSt) :=
(F_X11_may a0 l1 l2 l3 σ).bind fun v2 =>
if v2 = (1 : Int32) then (
cR (σ.2.2 a0 1) (okr kC NC 7) fun z3 =>
cR (σ.2.2 a0 5) (okr kC NC 10) fun z4 =>
cC (F_X7_heardOn z3 (σ.1 z4 0) σ) fun v6 σ7 =>
(F_X11_hearersOf v6 l1 σ7).bind fun v9 =>
cR (σ7.2.2 a0 7) (okr kC NC 2) fun z10 =>
cR (σ7.2.2 a0 5) (okr kC NC 10) fun z11 =>
(F_X2_push z10 z11 σ7).bind fun σ13 =>
cR (σ13.2.2 a0 5) (okr kC NC 10) fun z14 =>
(F_X10_drumByDay z14 l1 l2 l3 v9 σ13).bind fun σ16 =>
(F_J6_bitCount_0f7a4 (v9 &&& (((1 : Int32) <<< (l1 &&& 31)) ^^^ (-1 : Int32))) σ16).bind fun v18 =>
some ((v18, σ16))) else (
if v2 = 0 then (
F_X11_drum_27 (-2 : Int32) σ) else (
F_X11_drum_27 v2 σ))
section
variable {p : Program} {l : Launch} {e : Env} {s : State} {m : MethodId} {args : Array Value} {below : List Frame} {meth : Method} {c : Code} {D : va_G} {ay : Nat → ClassId} {ad : Nat → Nat}
set_option maxRecDepth 100000 in
set_option maxHeartbeats 4000000 in
theorem B_X11_drum_27 {H : Heap} {locs : List Loc} {ls : Array Slot} {r0 : Int32} {σ0 : hSt} (s0 : Int32) (σ : hSt) (G : Gx p m c cX11_drum 6 s args RX11 D ay NC ad (aN NC ad)) (hm : meth.sig.returnType = (some .int) ∧ meth.locks = false)  (hf : F_X11_drum_27 s0 σ = some (r0, σ0))  (w : Wd D ay kC NC ad (aN NC ad) s σ H locs) (hl : lv_has ls 6 []) : W p l e (rmK 4 102) s m args below meth c H locs 0 0 (MQ below (cI D ay kC NC ad r0 σ0) args s 0 0 (aN NC ad)) (F0 m 27 ls [.int s0]) := by
  unfold F_X11_drum_27 at hf
  have e9 := Option.some.inj hf
  exact r_iret G w hm (congrArg Prod.fst e9) (congrArg Prod.snd e9) (dcs_get dec_X11_drum_0 14 rfl)
set_option maxRecDepth 100000 in
set_option maxHeartbeats 4000000 in
theorem B_X11_drum_0 {H : Heap} {locs : List Loc} {ls : Array Slot} {r0 : Int32} {σ0 : hSt} (a0 : Nat) (l1 : Int32) (l2 : Int32) (l3 : Int32) (σ : hSt) (G : Gx p m c cX11_drum 6 s args RX11 D ay NC ad (aN NC ad)) (hm : meth.sig.returnType = (some .int) ∧ meth.locks = false) (ok_a0 : okr kC NC 11 a0 = true) (hf : F_X11_drum a0 l1 l2 l3 σ = some (r0, σ0))  (w : Wd D ay kC NC ad (aN NC ad) s σ H locs) (hl : lv_has ls 6 [(0, .ref (ad a0)), (1, .int l1), (2, .int l2), (3, .int l3)]) : W p l e (rmK 4 102) s m args below meth c H locs 0 0 (MQ below (cI D ay kC NC ad r0 σ0) args s 0 0 (aN NC ad)) (F0 m 0 ls []) := by
  have k_a0 := okr_in ok_a0
  unfold F_X11_drum at hf
  refine lv_aload_n G.hx G.hb (dcs_get dec_X11_drum_0 0 rfl) rfl (lv_at hl 0 rfl) ?_
  refine lv_iload_n G.hx G.hb (dcs_get dec_X11_drum_0 1 rfl) rfl (lv_at hl 1 rfl) ?_
  refine lv_iload_n G.hx G.hb (dcs_get dec_X11_drum_0 2 rfl) rfl (lv_at hl 2 rfl) ?_
  refine lv_iload_n G.hx G.hb (dcs_get dec_X11_drum_0 3 rfl) rfl (lv_at hl 3 rfl) ?_
  obtain ⟨v2, h1, hf⟩ := cB_some hf
  refine a_i (k_V (As := [.int l1, .int l2, .int l3]) (rest := []) cls11 lb_X11_may lv_X11_may q_737 (C_X11_may G.2.2.1 a0 l1 l2 l3 σ h1 ok_a0) ⟨(Nat.le_of_ble_eq_true rfl), (Nat.le_of_ble_eq_true rfl)⟩ G w k_a0.1 k_a0.2 rfl rfl hl.1 (Nat.le_of_ble_eq_true rfl) (dcs_get dec_X11_drum_0 4 rfl) ⟨Nat.le_refl _, Nat.le_refl _⟩) G w (fun H locs w => ?_)
  refine lv_istore (lv' := [(4, .int v2), (0, .ref (ad a0)), (1, .int l1), (2, .int l2), (3, .int l3)]) G.hx G.hb (dcs_get dec_X11_drum_0 5 rfl) hl (by decide) rfl (fun ls hl => ?_)
  refine lv_iload G.hx G.hb (dcs_get dec_X11_drum_0 6 rfl) (lv_at hl 0 rfl) ?_
  refine lv_iconst (v := (1 : Int32)) G.hx G.hb (dcs_get dec_X11_drum_0 7 rfl) (by decide) ?_
  refine lv_icmp_eq (tgt := 28) G.hx G.hb (dcs_get dec_X11_drum_0 8 rfl) (by decide) (fun hc => ?_) (fun hc => ?_)
  · rw [if_pos hc] at hf
    refine lv_aload_n G.hx G.hb (dcs_get dec_X11_drum_0 15 rfl) rfl (lv_at hl 1 rfl) ?_
    obtain ⟨z3, e_z3, ok_z3, hf⟩ := cR_some hf
    have k_z3 := okr_in ok_z3
    refine r_getr (k := 1) cls11 fi_11_1.1 fi_11_1.2 q_392 G w k_a0.1 k_a0.2 e_z3 (dcs_get dec_X11_drum_0 16 rfl) ?_
    refine lv_aload_n G.hx G.hb (dcs_get dec_X11_drum_0 17 rfl) rfl (lv_at hl 1 rfl) ?_
    obtain ⟨z4, e_z4, ok_z4, hf⟩ := cR_some hf
    have k_z4 := okr_in ok_z4
    refine r_getr (k := 5) cls11 fi_11_5.1 fi_11_5.2 q_396 G w k_a0.1 k_a0.2 e_z4 (dcs_get dec_X11_drum_0 18 rfl) ?_
    refine r_getiN (k := 0) cls10 fi_10_0.1 fi_10_0.2 nf_236 G w k_z4.1 k_z4.2 (dcs_get dec_X11_drum_0 19 rfl) ?_
    obtain ⟨v6, σ7, h5, hf⟩ := cC_some hf
    refine a_l (k_VN (As := [.int (σ.1 z4 0)]) (rest := []) cls7 lb_X7_heardOn lv_X7_heardOn nm_751 (C_X7_heardOn G.2.2.1 z3 (σ.1 z4 0) σ h5 ok_z3) ⟨(Nat.le_of_ble_eq_true rfl), (Nat.le_of_ble_eq_true rfl)⟩ G w k_z3.1 k_z3.2 rfl rfl hl.1 (Nat.le_of_ble_eq_true rfl) (dcs_get dec_X11_drum_0 20 rfl) ⟨Nat.le_refl _, Nat.le_refl _⟩) G w (fun H locs w => ?_)
    refine lv_iload_n G.hx G.hb (dcs_get dec_X11_drum_0 21 rfl) rfl (lv_at hl 2 rfl) ?_
    obtain ⟨v9, h8, hf⟩ := cB_some hf
    refine a_i (k_S (As := [.long v6, .int l1]) (rest := []) lb_X11_hearersOf q_757 q_756 (C_X11_hearersOf G.2.2.1 v6 l1 σ7 h8 ) ⟨(Nat.le_of_ble_eq_true rfl), (Nat.le_of_ble_eq_true rfl)⟩ G w rfl rfl hl.1 (Nat.le_of_ble_eq_true rfl) (dcs_get dec_X11_drum_0 22 rfl) ⟨Nat.le_refl _, Nat.le_refl _⟩) G w (fun H locs w => ?_)
    refine lv_istore (lv' := [(5, .int v9), (4, .int v2), (0, .ref (ad a0)), (1, .int l1), (2, .int l2), (3, .int l3)]) G.hx G.hb (dcs_get dec_X11_drum_0 23 rfl) hl (by decide) rfl (fun ls hl => ?_)
    refine lv_aload_n G.hx G.hb (dcs_get dec_X11_drum_0 24 rfl) rfl (lv_at hl 2 rfl) ?_
    obtain ⟨z10, e_z10, ok_z10, hf⟩ := cR_some hf
    have k_z10 := okr_in ok_z10
    refine r_getr (k := 7) cls11 fi_11_7.1 fi_11_7.2 q_398 G w k_a0.1 k_a0.2 e_z10 (dcs_get dec_X11_drum_0 25 rfl) ?_
    refine lv_aload_n G.hx G.hb (dcs_get dec_X11_drum_0 26 rfl) rfl (lv_at hl 2 rfl) ?_
    obtain ⟨z11, e_z11, ok_z11, hf⟩ := cR_some hf
    have k_z11 := okr_in ok_z11
    refine r_getr (k := 5) cls11 fi_11_5.1 fi_11_5.2 q_396 G w k_a0.1 k_a0.2 e_z11 (dcs_get dec_X11_drum_0 27 rfl) ?_
    obtain ⟨σ13, h12, hf⟩ := cB_some hf
    refine a_v (k_VN (As := [.ref (ad z11)]) (rest := []) cls2 lb_X2_push lv_X2_push nm_759 (C_X2_push G.2.2.1 z10 z11 σ7 h12 ok_z10 ok_z11) ⟨(Nat.le_of_ble_eq_true rfl), (Nat.le_of_ble_eq_true rfl)⟩ G w k_z10.1 k_z10.2 rfl rfl hl.1 (Nat.le_of_ble_eq_true rfl) (dcs_get dec_X11_drum_0 28 rfl) ⟨Nat.le_refl _, Nat.le_refl _⟩) G w (fun H locs w => ?_)
    refine lv_aload_n G.hx G.hb (dcs_get dec_X11_drum_0 29 rfl) rfl (lv_at hl 2 rfl) ?_
    obtain ⟨z14, e_z14, ok_z14, hf⟩ := cR_some hf
    have k_z14 := okr_in ok_z14
    refine r_getr (k := 5) cls11 fi_11_5.1 fi_11_5.2 q_396 G w k_a0.1 k_a0.2 e_z14 (dcs_get dec_X11_drum_0 30 rfl) ?_
    refine lv_iload_n G.hx G.hb (dcs_get dec_X11_drum_0 31 rfl) rfl (lv_at hl 3 rfl) ?_
    refine lv_iload_n G.hx G.hb (dcs_get dec_X11_drum_0 32 rfl) rfl (lv_at hl 4 rfl) ?_
    refine lv_iload_n G.hx G.hb (dcs_get dec_X11_drum_0 33 rfl) rfl (lv_at hl 5 rfl) ?_
    refine lv_iload G.hx G.hb (dcs_get dec_X11_drum_0 34 rfl) (lv_at hl 0 rfl) ?_
    obtain ⟨σ16, h15, hf⟩ := cB_some hf
    refine a_v (k_VN (As := [.int l1, .int l2, .int l3, .int v9]) (rest := []) cls10 lb_X10_drumByDay lv_X10_drumByDay nm_771 (C_X10_drumByDay G.2.2.1 z14 l1 l2 l3 v9 σ13 h15 ok_z14) ⟨(Nat.le_of_ble_eq_true rfl), (Nat.le_of_ble_eq_true rfl)⟩ G w k_z14.1 k_z14.2 rfl rfl hl.1 (Nat.le_of_ble_eq_true rfl) (dcs_get dec_X11_drum_0 35 rfl) ⟨Nat.le_refl _, Nat.le_refl _⟩) G w (fun H locs w => ?_)
    refine lv_iload G.hx G.hb (dcs_get dec_X11_drum_0 36 rfl) (lv_at hl 0 rfl) ?_
    refine lv_iconst (v := (1 : Int32)) G.hx G.hb (dcs_get dec_X11_drum_0 37 rfl) (by decide) ?_
    refine lv_iload_n G.hx G.hb (dcs_get dec_X11_drum_0 38 rfl) rfl (lv_at hl 3 rfl) ?_
    refine lv_ishl G.hx G.hb (dcs_get dec_X11_drum_0 39 rfl) ?_
    refine lv_iconst (v := (-1 : Int32)) G.hx G.hb (dcs_get dec_X11_drum_1 0 rfl) (by decide) ?_
    refine lv_ixor G.hx G.hb (dcs_get dec_X11_drum_1 1 rfl) ?_
    refine lv_iand G.hx G.hb (dcs_get dec_X11_drum_1 2 rfl) ?_
    obtain ⟨v18, h17, hf⟩ := cB_some hf
    refine a_i (k_S (As := [.int (v9 &&& (((1 : Int32) <<< (l1 &&& 31)) ^^^ (-1 : Int32)))]) (rest := []) lb_J6_bitCount_0f7a4 q_784 q_783 (C_J6_bitCount_0f7a4 G.2.2.1 (v9 &&& (((1 : Int32) <<< (l1 &&& 31)) ^^^ (-1 : Int32))) σ16 h17 ) ⟨(Nat.le_of_ble_eq_true rfl), (Nat.le_of_ble_eq_true rfl)⟩ G w rfl rfl hl.1 (Nat.le_of_ble_eq_true rfl) (dcs_get dec_X11_drum_1 3 rfl) ⟨Nat.le_refl _, Nat.le_refl _⟩) G w (fun H locs w => ?_)
    have e9 := Option.some.inj hf
    exact r_iret G w hm (congrArg Prod.fst e9) (congrArg Prod.snd e9) (dcs_get dec_X11_drum_1 4 rfl)
  · rw [if_neg hc] at hf
    refine lv_iload G.hx G.hb (dcs_get dec_X11_drum_0 9 rfl) (lv_at hl 0 rfl) ?_
    refine lv_if_ne (tgt := 25) G.hx G.hb (dcs_get dec_X11_drum_0 10 rfl) (by decide) (fun hc => ?_) (fun hc => ?_)
    · rw [if_neg hc] at hf
      refine lv_iload G.hx G.hb (dcs_get dec_X11_drum_0 13 rfl) (lv_at hl 0 rfl) ?_
      exact B_X11_drum_27 v2 σ G hm  hf  w (lv_sub hl [] rfl)
    · rw [if_pos hc] at hf
      refine lv_bipush (v := (-2 : Int32)) G.hx G.hb (dcs_get dec_X11_drum_0 11 rfl) (by decide) ?_
      refine lv_goto (tgt := 27) G.hx G.hb (dcs_get dec_X11_drum_0 12 rfl) (by decide) ?_
      exact B_X11_drum_27 (-2 : Int32) σ G hm  hf  w (lv_sub hl [] rfl)
end
set_option maxRecDepth 100000 in
set_option maxHeartbeats 4000000 in
theorem C_X11_drum {l : Launch} {D : va_G} {ay : Nat → ClassId} {ad : Nat → Nat} (hi : hInj NC ad) (a0 : Nat) (l1 : Int32) (l2 : Int32) (l3 : Int32) (σ : hSt) {r0 : Int32} {σ0 : hSt} (hf : F_X11_drum a0 l1 l2 l3 σ = some (r0, σ0)) (ok_a0 : okr kC NC 11 a0 = true) : hM l D ay kC NC ad yX11_drum cX11_drum 6 ((some .int)) (rmK 4 102) [.ref (ad a0), .int l1, .int l2, .int l3] σ (cI D ay kC NC ad r0 σ0) := by
  refine hM_in (by decide) hi (Nat.le_of_ble_eq_true rfl) ?_
  intro p e s m below meth c G hm w ls hl
  exact B_X11_drum_0 a0 l1 l2 l3 σ G hm ok_a0 hf w (lv_sub hl [0, 1, 2, 3] rfl)

/-! HillDrums.drummed(II)I -/
def DL_X11_drummed_0 : List (Nat × Instr × Nat) := [(0, .iload_n 1, 1), (1, .ifCond .lt 20, 3), (4, .iload_n 1, 1), (5, .aload_n 0, 1), (6, .getfield 42, 3), (9, .getfield 192, 3), (12, .if_icmp .ge 9, 3), (15, .iload_n 1, 1), (16, .bipush 60, 2), (18, .if_icmp .lt 5, 3), (21, .iconst (-1), 1), (22, .ireturn, 1), (23, .aload_n 0, 1), (24, .getfield 42, 3), (27, .getfield 195, 3), (30, .iload_n 1, 1), (31, .iaload, 1), (32, .istore_n 3, 1), (33, .iload_n 2, 1), (34, .tableswitch 57 0 3 #[30, 35, 42, 49], 30), (64, .iload_n 3, 1), (65, .bipush 7, 2), (67, .iand, 1), (68, .ireturn, 1), (69, .iload_n 3, 1), (70, .iconst 3, 1), (71, .ishr, 1), (72, .bipush 7, 2), (74, .iand, 1), (75, .ireturn, 1), (76, .iload_n 3, 1), (77, .bipush 6, 2), (79, .ishr, 1), (80, .iconst 1, 1), (81, .iand, 1), (82, .ireturn, 1), (83, .iload_n 3, 1), (84, .bipush 7, 2), (86, .ishr, 1), (87, .bipush 63, 2)]
set_option maxRecDepth 100000 in
theorem dec_X11_drummed_0 : dcs cX11_drummed DL_X11_drummed_0 = true := by decide +kernel
def DL_X11_drummed_1 : List (Nat × Instr × Nat) := [(89, .iand, 1), (90, .ireturn, 1), (91, .iconst (-1), 1), (92, .ireturn, 1)]
set_option maxRecDepth 100000 in
theorem dec_X11_drummed_1 : dcs cX11_drummed DL_X11_drummed_1 = true := by decide +kernel
theorem lb_X11_drummed : lkB yX11_drummed cX11_drummed 4 ((some .int)) 2 := ⟨q_793, q_1, ⟨by decide, by decide⟩, by decide +kernel⟩
theorem lv_X11_drummed : lkV yX11_drummed := ⟨q_791, q_792⟩
def F_X11_drummed_21  (σ : hSt) : Option (Int32) :=
some ((-1 : Int32))
def F_X11_drummed (a0 : Nat) (l1 : Int32) (l2 : Int32) (σ : hSt) : Option (Int32) :=
if l1 < 0 then (
F_X11_drummed_21  σ) else (
cR (σ.2.2 a0 5) (okr kC NC 10) fun z1 =>
if (σ.1 z1 7) ≤ l1 then (
F_X11_drummed_21  σ) else (
if l1 < (60 : Int32) then (
cR (σ.2.2 a0 5) (okr kC NC 10) fun z2 =>
cR (σ.2.2 z2 11) (okr kC NC 101) fun z3 =>
cG (inb l1 (kC z3).2) <|
cL (σ.1 z3 l1.toNatClampNeg) fun v5 =>
if l2 = (0 : Int32) then (
some (v5 &&& (7 : Int32))) else (
if l2 = (1 : Int32) then (
some ((v5 >>> ((3 : Int32) &&& 31)) &&& (7 : Int32))) else (
if l2 = (2 : Int32) then (
some ((v5 >>> ((6 : Int32) &&& 31)) &&& (1 : Int32))) else (
if l2 = (3 : Int32) then (
some ((v5 >>> ((7 : Int32) &&& 31)) &&& (63 : Int32))) else (
some ((-1 : Int32))))))) else (
F_X11_drummed_21  σ)))
section
variable {p : Program} {l : Launch} {e : Env} {s : State} {m : MethodId} {args : Array Value} {below : List Frame} {meth : Method} {c : Code} {D : va_G} {ay : Nat → ClassId} {ad : Nat → Nat}
set_option maxRecDepth 100000 in
set_option maxHeartbeats 4000000 in
theorem B_X11_drummed_21 {H : Heap} {locs : List Loc} {ls : Array Slot} {r0 : Int32}  (σ : hSt) (G : Gx p m c cX11_drummed 4 s args RX11 D ay NC ad (aN NC ad)) (hm : meth.sig.returnType = (some .int) ∧ meth.locks = false)  (hf : F_X11_drummed_21  σ = some r0)  (w : Wd D ay kC NC ad (aN NC ad) s σ H locs) (hl : lv_has ls 4 []) : W p l e (rmK 0 0) s m args below meth c H locs 0 0 (MQ below (cI D ay kC NC ad r0 σ) args s 0 0 (aN NC ad)) (F0 m 21 ls []) := by
  unfold F_X11_drummed_21 at hf
  refine lv_iconst (v := (-1 : Int32)) G.hx G.hb (dcs_get dec_X11_drummed_0 10 rfl) (by decide) ?_
  have e9 := Option.some.inj hf
  exact r_iret G w hm e9 rfl (dcs_get dec_X11_drummed_0 11 rfl)
set_option maxRecDepth 100000 in
set_option maxHeartbeats 4000000 in
theorem B_X11_drummed_0 {H : Heap} {locs : List Loc} {ls : Array Slot} {r0 : Int32} (a0 : Nat) (l1 : Int32) (l2 : Int32) (σ : hSt) (G : Gx p m c cX11_drummed 4 s args RX11 D ay NC ad (aN NC ad)) (hm : meth.sig.returnType = (some .int) ∧ meth.locks = false) (ok_a0 : okr kC NC 11 a0 = true) (hf : F_X11_drummed a0 l1 l2 σ = some r0)  (w : Wd D ay kC NC ad (aN NC ad) s σ H locs) (hl : lv_has ls 4 [(0, .ref (ad a0)), (1, .int l1), (2, .int l2)]) : W p l e (rmK 0 0) s m args below meth c H locs 0 0 (MQ below (cI D ay kC NC ad r0 σ) args s 0 0 (aN NC ad)) (F0 m 0 ls []) := by
  have k_a0 := okr_in ok_a0
  unfold F_X11_drummed at hf
  refine lv_iload_n G.hx G.hb (dcs_get dec_X11_drummed_0 0 rfl) rfl (lv_at hl 1 rfl) ?_
  refine lv_if_lt (tgt := 21) G.hx G.hb (dcs_get dec_X11_drummed_0 1 rfl) (by decide) (fun hc => ?_) (fun hc => ?_)
  · rw [if_pos hc] at hf
    exact B_X11_drummed_21  σ G hm  hf  w (lv_sub hl [] rfl)
  · rw [if_neg hc] at hf
    refine lv_iload_n G.hx G.hb (dcs_get dec_X11_drummed_0 2 rfl) rfl (lv_at hl 1 rfl) ?_
    refine lv_aload_n G.hx G.hb (dcs_get dec_X11_drummed_0 3 rfl) rfl (lv_at hl 0 rfl) ?_
    obtain ⟨z1, e_z1, ok_z1, hf⟩ := cR_some hf
    have k_z1 := okr_in ok_z1
    refine r_getr (k := 5) cls11 fi_11_5.1 fi_11_5.2 q_396 G w k_a0.1 k_a0.2 e_z1 (dcs_get dec_X11_drummed_0 4 rfl) ?_
    refine r_getiN (k := 7) cls10 fi_10_7.1 fi_10_7.2 nf_247 G w k_z1.1 k_z1.2 (dcs_get dec_X11_drummed_0 5 rfl) ?_
    refine lv_icmp_ge (tgt := 21) G.hx G.hb (dcs_get dec_X11_drummed_0 6 rfl) (by decide) (fun hc => ?_) (fun hc => ?_)
    · rw [if_pos hc] at hf
      exact B_X11_drummed_21  σ G hm  hf  w (lv_sub hl [] rfl)
    · rw [if_neg hc] at hf
      refine lv_iload_n G.hx G.hb (dcs_get dec_X11_drummed_0 7 rfl) rfl (lv_at hl 1 rfl) ?_
      refine lv_bipush (v := (60 : Int32)) G.hx G.hb (dcs_get dec_X11_drummed_0 8 rfl) (by decide) ?_
      refine lv_icmp_lt (tgt := 23) G.hx G.hb (dcs_get dec_X11_drummed_0 9 rfl) (by decide) (fun hc => ?_) (fun hc => ?_)
      · rw [if_pos hc] at hf
        refine lv_aload_n G.hx G.hb (dcs_get dec_X11_drummed_0 12 rfl) rfl (lv_at hl 0 rfl) ?_
        obtain ⟨z2, e_z2, ok_z2, hf⟩ := cR_some hf
        have k_z2 := okr_in ok_z2
        refine r_getr (k := 5) cls11 fi_11_5.1 fi_11_5.2 q_396 G w k_a0.1 k_a0.2 e_z2 (dcs_get dec_X11_drummed_0 13 rfl) ?_
        obtain ⟨z3, e_z3, ok_z3, hf⟩ := cR_some hf
        have k_z3 := okr_in ok_z3
        refine r_getrN (k := 11) cls10 fi_10_11.1 fi_10_11.2 nf_256 G w k_z2.1 k_z2.2 e_z3 (dcs_get dec_X11_drummed_0 14 rfl) ?_
        refine lv_iload_n G.hx G.hb (dcs_get dec_X11_drummed_0 15 rfl) rfl (lv_at hl 1 rfl) ?_
        obtain ⟨h4, hf⟩ := cG_some hf
        refine r_iald G w k_z3.1 k_z3.2 h4 (dcs_get dec_X11_drummed_0 16 rfl) ?_
        obtain ⟨v5, e_v5, hf⟩ := cL_some hf
        refine r_topi e_v5 ?_
        refine lv_istore_n (lv' := [(3, .int v5), (0, .ref (ad a0)), (1, .int l1), (2, .int l2)]) G.hx G.hb (dcs_get dec_X11_drummed_0 17 rfl) rfl hl (by decide) rfl (fun ls hl => ?_)
        refine lv_iload_n G.hx G.hb (dcs_get dec_X11_drummed_0 18 rfl) rfl (lv_at hl 3 rfl) ?_
        by_cases hc0 : l2 = (0 : Int32)
        · rw [if_pos hc0] at hf
          refine r_tIn (k := (0 : Int32)) (tgt := 64) G.hx G.hb (dcs_get dec_X11_drummed_0 19 rfl) hc0 (by decide) rfl (by decide) ?_
          refine lv_iload_n G.hx G.hb (dcs_get dec_X11_drummed_0 20 rfl) rfl (lv_at hl 0 rfl) ?_
          refine lv_bipush (v := (7 : Int32)) G.hx G.hb (dcs_get dec_X11_drummed_0 21 rfl) (by decide) ?_
          refine lv_iand G.hx G.hb (dcs_get dec_X11_drummed_0 22 rfl) ?_
          have e9 := Option.some.inj hf
          exact r_iret G w hm e9 rfl (dcs_get dec_X11_drummed_0 23 rfl)
        rw [if_neg hc0] at hf
        by_cases hc1 : l2 = (1 : Int32)
        · rw [if_pos hc1] at hf
          refine r_tIn (k := (1 : Int32)) (tgt := 69) G.hx G.hb (dcs_get dec_X11_drummed_0 19 rfl) hc1 (by decide) rfl (by decide) ?_
          refine lv_iload_n G.hx G.hb (dcs_get dec_X11_drummed_0 24 rfl) rfl (lv_at hl 0 rfl) ?_
          refine lv_iconst (v := (3 : Int32)) G.hx G.hb (dcs_get dec_X11_drummed_0 25 rfl) (by decide) ?_
          refine lv_ishr G.hx G.hb (dcs_get dec_X11_drummed_0 26 rfl) ?_
          refine lv_bipush (v := (7 : Int32)) G.hx G.hb (dcs_get dec_X11_drummed_0 27 rfl) (by decide) ?_
          refine lv_iand G.hx G.hb (dcs_get dec_X11_drummed_0 28 rfl) ?_
          have e9 := Option.some.inj hf
          exact r_iret G w hm e9 rfl (dcs_get dec_X11_drummed_0 29 rfl)
        rw [if_neg hc1] at hf
        by_cases hc2 : l2 = (2 : Int32)
        · rw [if_pos hc2] at hf
          refine r_tIn (k := (2 : Int32)) (tgt := 76) G.hx G.hb (dcs_get dec_X11_drummed_0 19 rfl) hc2 (by decide) rfl (by decide) ?_
          refine lv_iload_n G.hx G.hb (dcs_get dec_X11_drummed_0 30 rfl) rfl (lv_at hl 0 rfl) ?_
          refine lv_bipush (v := (6 : Int32)) G.hx G.hb (dcs_get dec_X11_drummed_0 31 rfl) (by decide) ?_
          refine lv_ishr G.hx G.hb (dcs_get dec_X11_drummed_0 32 rfl) ?_
          refine lv_iconst (v := (1 : Int32)) G.hx G.hb (dcs_get dec_X11_drummed_0 33 rfl) (by decide) ?_
          refine lv_iand G.hx G.hb (dcs_get dec_X11_drummed_0 34 rfl) ?_
          have e9 := Option.some.inj hf
          exact r_iret G w hm e9 rfl (dcs_get dec_X11_drummed_0 35 rfl)
        rw [if_neg hc2] at hf
        by_cases hc3 : l2 = (3 : Int32)
        · rw [if_pos hc3] at hf
          refine r_tIn (k := (3 : Int32)) (tgt := 83) G.hx G.hb (dcs_get dec_X11_drummed_0 19 rfl) hc3 (by decide) rfl (by decide) ?_
          refine lv_iload_n G.hx G.hb (dcs_get dec_X11_drummed_0 36 rfl) rfl (lv_at hl 0 rfl) ?_
          refine lv_bipush (v := (7 : Int32)) G.hx G.hb (dcs_get dec_X11_drummed_0 37 rfl) (by decide) ?_
          refine lv_ishr G.hx G.hb (dcs_get dec_X11_drummed_0 38 rfl) ?_
          refine lv_bipush (v := (63 : Int32)) G.hx G.hb (dcs_get dec_X11_drummed_0 39 rfl) (by decide) ?_
          refine lv_iand G.hx G.hb (dcs_get dec_X11_drummed_1 0 rfl) ?_
          have e9 := Option.some.inj hf
          exact r_iret G w hm e9 rfl (dcs_get dec_X11_drummed_1 1 rfl)
        rw [if_neg hc3] at hf
        refine lv_tableOut (tgt := 91) G.hx G.hb (dcs_get dec_X11_drummed_0 19 rfl) (ts_out [(0 : Int32), (1 : Int32), (2 : Int32), (3 : Int32)] (by intro z h1 h2; simp only [List.map]; rcases (show z = 0 ∨ z = 1 ∨ z = 2 ∨ z = 3 by omega) with h4 | h4 | h4 | h4 <;> subst h4 <;> decide) (by simp only [List.forall_mem_cons]; exact ⟨hc0, hc1, hc2, hc3, fun _ h => absurd h List.not_mem_nil⟩)) (by decide) ?_
        refine lv_iconst (v := (-1 : Int32)) G.hx G.hb (dcs_get dec_X11_drummed_1 2 rfl) (by decide) ?_
        have e9 := Option.some.inj hf
        exact r_iret G w hm e9 rfl (dcs_get dec_X11_drummed_1 3 rfl)
      · rw [if_neg hc] at hf
        exact B_X11_drummed_21  σ G hm  hf  w (lv_sub hl [] rfl)
end
set_option maxRecDepth 100000 in
set_option maxHeartbeats 4000000 in
theorem C_X11_drummed {l : Launch} {D : va_G} {ay : Nat → ClassId} {ad : Nat → Nat} (hi : hInj NC ad) (a0 : Nat) (l1 : Int32) (l2 : Int32) (σ : hSt) {r0 : Int32} (hf : F_X11_drummed a0 l1 l2 σ = some r0) (ok_a0 : okr kC NC 11 a0 = true) : hM l D ay kC NC ad yX11_drummed cX11_drummed 4 ((some .int)) (rmK 0 0) [.ref (ad a0), .int l1, .int l2] σ (cI D ay kC NC ad r0 σ) := by
  refine hM_in (by decide) hi (Nat.le_of_ble_eq_true rfl) ?_
  intro p e s m below meth c G hm w ls hl
  exact B_X11_drummed_0 a0 l1 l2 σ G hm ok_a0 hf w (lv_sub hl [0, 1, 2] rfl)

/-! HillDrums.night()I -/
def DL_X11_night_0 : List (Nat × Instr × Nat) := [(0, .aload_n 0, 1), (1, .getfield 52, 3), (4, .aload_n 0, 1), (5, .getfield 42, 3), (8, .invokevirtual 168, 3), (11, .aload_n 0, 1), (12, .getfield 42, 3), (15, .aload_n 0, 1), (16, .getfield 19, 3), (19, .iconst (-1), 1), (20, .invokevirtual 198, 3), (23, .aload_n 0, 1), (24, .getfield 42, 3), (27, .getfield 157, 3), (30, .ireturn, 1)]
set_option maxRecDepth 100000 in
theorem dec_X11_night_0 : dcs cX11_night DL_X11_night_0 = true := by decide +kernel
theorem lb_X11_night : lkB yX11_night cX11_night 1 ((some .int)) 0 := ⟨q_797, q_1, ⟨by decide, by decide⟩, by decide +kernel⟩
theorem lv_X11_night : lkV yX11_night := ⟨q_795, q_796⟩
def F_X11_night (a0 : Nat) (σ : hSt) : Option (Int32 × hSt) :=
cR (σ.2.2 a0 7) (okr kC NC 2) fun z1 =>
cR (σ.2.2 a0 5) (okr kC NC 10) fun z2 =>
(F_X2_push z1 z2 σ).bind fun σ4 =>
cR (σ4.2.2 a0 5) (okr kC NC 10) fun z5 =>
cR (σ4.2.2 a0 1) (okr kC NC 7) fun z6 =>
(F_X10_passNight z5 z6 (-1 : Int32) σ4).bind fun σ8 =>
cR (σ8.2.2 a0 5) (okr kC NC 10) fun z9 =>
some ((σ8.1 z9 0, σ8))
section
variable {p : Program} {l : Launch} {e : Env} {s : State} {m : MethodId} {args : Array Value} {below : List Frame} {meth : Method} {c : Code} {D : va_G} {ay : Nat → ClassId} {ad : Nat → Nat}
set_option maxRecDepth 100000 in
set_option maxHeartbeats 4000000 in
theorem B_X11_night_0 {H : Heap} {locs : List Loc} {ls : Array Slot} {r0 : Int32} {σ0 : hSt} (a0 : Nat) (σ : hSt) (G : Gx p m c cX11_night 1 s args RX11 D ay NC ad (aN NC ad)) (hm : meth.sig.returnType = (some .int) ∧ meth.locks = false) (ok_a0 : okr kC NC 11 a0 = true) (hf : F_X11_night a0 σ = some (r0, σ0))  (w : Wd D ay kC NC ad (aN NC ad) s σ H locs) (hl : lv_has ls 1 [(0, .ref (ad a0))]) : W p l e (rmK 5 121) s m args below meth c H locs 0 0 (MQ below (cI D ay kC NC ad r0 σ0) args s 0 0 (aN NC ad)) (F0 m 0 ls []) := by
  have k_a0 := okr_in ok_a0
  unfold F_X11_night at hf
  refine lv_aload_n G.hx G.hb (dcs_get dec_X11_night_0 0 rfl) rfl (lv_at hl 0 rfl) ?_
  obtain ⟨z1, e_z1, ok_z1, hf⟩ := cR_some hf
  have k_z1 := okr_in ok_z1
  refine r_getr (k := 7) cls11 fi_11_7.1 fi_11_7.2 q_398 G w k_a0.1 k_a0.2 e_z1 (dcs_get dec_X11_night_0 1 rfl) ?_
  refine lv_aload_n G.hx G.hb (dcs_get dec_X11_night_0 2 rfl) rfl (lv_at hl 0 rfl) ?_
  obtain ⟨z2, e_z2, ok_z2, hf⟩ := cR_some hf
  have k_z2 := okr_in ok_z2
  refine r_getr (k := 5) cls11 fi_11_5.1 fi_11_5.2 q_396 G w k_a0.1 k_a0.2 e_z2 (dcs_get dec_X11_night_0 3 rfl) ?_
  obtain ⟨σ4, h3, hf⟩ := cB_some hf
  refine a_v (k_VN (As := [.ref (ad z2)]) (rest := []) cls2 lb_X2_push lv_X2_push nm_759 (C_X2_push G.2.2.1 z1 z2 σ h3 ok_z1 ok_z2) ⟨(Nat.le_of_ble_eq_true rfl), (Nat.le_of_ble_eq_true rfl)⟩ G w k_z1.1 k_z1.2 rfl rfl hl.1 (Nat.le_of_ble_eq_true rfl) (dcs_get dec_X11_night_0 4 rfl) ⟨Nat.le_refl _, Nat.le_refl _⟩) G w (fun H locs w => ?_)
  refine lv_aload_n G.hx G.hb (dcs_get dec_X11_night_0 5 rfl) rfl (lv_at hl 0 rfl) ?_
  obtain ⟨z5, e_z5, ok_z5, hf⟩ := cR_some hf
  have k_z5 := okr_in ok_z5
  refine r_getr (k := 5) cls11 fi_11_5.1 fi_11_5.2 q_396 G w k_a0.1 k_a0.2 e_z5 (dcs_get dec_X11_night_0 6 rfl) ?_
  refine lv_aload_n G.hx G.hb (dcs_get dec_X11_night_0 7 rfl) rfl (lv_at hl 0 rfl) ?_
  obtain ⟨z6, e_z6, ok_z6, hf⟩ := cR_some hf
  have k_z6 := okr_in ok_z6
  refine r_getr (k := 1) cls11 fi_11_1.1 fi_11_1.2 q_392 G w k_a0.1 k_a0.2 e_z6 (dcs_get dec_X11_night_0 8 rfl) ?_
  refine lv_iconst (v := (-1 : Int32)) G.hx G.hb (dcs_get dec_X11_night_0 9 rfl) (by decide) ?_
  obtain ⟨σ8, h7, hf⟩ := cB_some hf
  refine a_v (k_VN (As := [.ref (ad z6), .int (-1 : Int32)]) (rest := []) cls10 lb_X10_passNight lv_X10_passNight nm_798 (C_X10_passNight G.2.2.1 z5 z6 (-1 : Int32) σ4 h7 ok_z5 ok_z6) ⟨(Nat.le_of_ble_eq_true rfl), (Nat.le_of_ble_eq_true rfl)⟩ G w k_z5.1 k_z5.2 rfl rfl hl.1 (Nat.le_of_ble_eq_true rfl) (dcs_get dec_X11_night_0 10 rfl) ⟨Nat.le_refl _, Nat.le_refl _⟩) G w (fun H locs w => ?_)
  refine lv_aload_n G.hx G.hb (dcs_get dec_X11_night_0 11 rfl) rfl (lv_at hl 0 rfl) ?_
  obtain ⟨z9, e_z9, ok_z9, hf⟩ := cR_some hf
  have k_z9 := okr_in ok_z9
  refine r_getr (k := 5) cls11 fi_11_5.1 fi_11_5.2 q_396 G w k_a0.1 k_a0.2 e_z9 (dcs_get dec_X11_night_0 12 rfl) ?_
  refine r_getiN (k := 0) cls10 fi_10_0.1 fi_10_0.2 nf_236 G w k_z9.1 k_z9.2 (dcs_get dec_X11_night_0 13 rfl) ?_
  have e9 := Option.some.inj hf
  exact r_iret G w hm (congrArg Prod.fst e9) (congrArg Prod.snd e9) (dcs_get dec_X11_night_0 14 rfl)
end
set_option maxRecDepth 100000 in
set_option maxHeartbeats 4000000 in
theorem C_X11_night {l : Launch} {D : va_G} {ay : Nat → ClassId} {ad : Nat → Nat} (hi : hInj NC ad) (a0 : Nat) (σ : hSt) {r0 : Int32} {σ0 : hSt} (hf : F_X11_night a0 σ = some (r0, σ0)) (ok_a0 : okr kC NC 11 a0 = true) : hM l D ay kC NC ad yX11_night cX11_night 1 ((some .int)) (rmK 5 121) [.ref (ad a0)] σ (cI D ay kC NC ad r0 σ0) := by
  refine hM_in (by decide) hi (Nat.le_of_ble_eq_true rfl) ?_
  intro p e s m below meth c G hm w ls hl
  exact B_X11_night_0 a0 σ G hm ok_a0 hf w (lv_sub hl [0] rfl)

/-! HillDrums.run(I)I -/
def DL_X11_run_0 : List (Nat × Instr × Nat) := [(0, .iload_n 1, 1), (1, .ifCond .lt 9, 3), (4, .iload_n 1, 1), (5, .bipush 100, 2), (7, .if_icmp .le 5, 3), (10, .iconst (-1), 1), (11, .ireturn, 1), (12, .iload_n 1, 1), (13, .ifCond .le 14, 3), (16, .aload_n 0, 1), (17, .getfield 52, 3), (20, .aload_n 0, 1), (21, .getfield 42, 3), (24, .invokevirtual 168, 3), (27, .iconst 0, 1), (28, .istore_n 2, 1), (29, .iload_n 2, 1), (30, .iload_n 1, 1), (31, .if_icmp .ge 28, 3), (34, .aload_n 0, 1), (35, .getfield 42, 3), (38, .aload_n 0, 1), (39, .getfield 19, 3), (42, .aload_n 0, 1), (43, .getfield 19, 3), (46, .getfield 185, 3), (49, .iconst (-1), 1), (50, .invokevirtual 202, 3), (53, .iinc 2 1, 3), (56, .goto (-27), 3), (59, .aload_n 0, 1), (60, .getfield 42, 3), (63, .getfield 157, 3), (66, .ireturn, 1)]
set_option maxRecDepth 100000 in
theorem dec_X11_run_0 : dcs cX11_run DL_X11_run_0 = true := by decide +kernel
theorem lb_X11_run : lkB yX11_run cX11_run 3 ((some .int)) 1 := ⟨q_807, q_1, ⟨by decide, by decide⟩, by decide +kernel⟩
theorem lv_X11_run : lkV yX11_run := ⟨q_805, q_806⟩
def F_X11_run_10  (σ : hSt) : Option (Int32 × hSt) :=
some (((-1 : Int32), σ))
def F_X11_run_29b (a0 : Nat) (l1 : Int32) (l2 : Int32) (σ : hSt) : Option ((Int32 × hSt) ⊕ (Int32 × hSt)) :=
if l1 ≤ l2 then (
cR (σ.2.2 a0 5) (okr kC NC 10) fun z1 =>
some (.inr ((σ.1 z1 0, σ)))) else (
cR (σ.2.2 a0 5) (okr kC NC 10) fun z2 =>
cR (σ.2.2 a0 1) (okr kC NC 7) fun z3 =>
cR (σ.2.2 a0 1) (okr kC NC 7) fun z4 =>
(F_X10_passDay z2 z3 (σ.1 z4 8) (-1 : Int32) σ).bind fun σ6 =>
cL (l2 + (1 : Int32)) fun v7 =>
some (.inl (v7, σ6)))
def S_X11_run_29 (a0 : Nat) (l1 : Int32) (v : Int32 × hSt) : Option ((Int32 × hSt) ⊕ (Int32 × hSt)) := F_X11_run_29b a0 l1 v.1 v.2
def F_X11_run_29 (a0 : Nat) (l1 : Int32) (l2 : Int32) (σ : hSt) : Option (Int32 × hSt) := lp (S_X11_run_29 a0 l1) fuel (l2, σ)
def F_X11_run_27 (a0 : Nat) (l1 : Int32) (σ : hSt) : Option (Int32 × hSt) :=
F_X11_run_29 a0 l1 (0 : Int32) σ
def F_X11_run (a0 : Nat) (l1 : Int32) (σ : hSt) : Option (Int32 × hSt) :=
if l1 < 0 then (
F_X11_run_10  σ) else (
if l1 ≤ (100 : Int32) then (
if l1 ≤ 0 then (
F_X11_run_27 a0 l1 σ) else (
cR (σ.2.2 a0 7) (okr kC NC 2) fun z8 =>
cR (σ.2.2 a0 5) (okr kC NC 10) fun z9 =>
(F_X2_push z8 z9 σ).bind fun σ11 =>
F_X11_run_27 a0 l1 σ11)) else (
F_X11_run_10  σ))
section
variable {p : Program} {l : Launch} {e : Env} {s : State} {m : MethodId} {args : Array Value} {below : List Frame} {meth : Method} {c : Code} {D : va_G} {ay : Nat → ClassId} {ad : Nat → Nat}
set_option maxRecDepth 100000 in
set_option maxHeartbeats 4000000 in
theorem B_X11_run_10 {H : Heap} {locs : List Loc} {ls : Array Slot} {r0 : Int32} {σ0 : hSt}  (σ : hSt) (G : Gx p m c cX11_run 3 s args RX11 D ay NC ad (aN NC ad)) (hm : meth.sig.returnType = (some .int) ∧ meth.locks = false)  (hf : F_X11_run_10  σ = some (r0, σ0))  (w : Wd D ay kC NC ad (aN NC ad) s σ H locs) (hl : lv_has ls 3 []) : W p l e (rmK 6 148) s m args below meth c H locs 0 0 (MQ below (cI D ay kC NC ad r0 σ0) args s 0 0 (aN NC ad)) (F0 m 10 ls []) := by
  unfold F_X11_run_10 at hf
  refine lv_iconst (v := (-1 : Int32)) G.hx G.hb (dcs_get dec_X11_run_0 5 rfl) (by decide) ?_
  have e9 := Option.some.inj hf
  exact r_iret G w hm (congrArg Prod.fst e9) (congrArg Prod.snd e9) (dcs_get dec_X11_run_0 6 rfl)
set_option maxRecDepth 100000 in
set_option maxHeartbeats 4000000 in
theorem B_X11_run_29b {H : Heap} {locs : List Loc} {ls : Array Slot} {r0 : Int32} {σ0 : hSt} {o : (Int32 × hSt) ⊕ (Int32 × hSt)} (a0 : Nat) (l1 : Int32) (l2 : Int32) (σ : hSt) (G : Gx p m c cX11_run 3 s args RX11 D ay NC ad (aN NC ad)) (hm : meth.sig.returnType = (some .int) ∧ meth.locks = false) (ok_a0 : okr kC NC 11 a0 = true) (hf : F_X11_run_29b a0 l1 l2 σ = some o) (hb0 : ∀ (v : Int32 × hSt), o = .inl v → ∀ (H : Heap) (locs : List Loc) (ls : Array Slot), Wd D ay kC NC ad (aN NC ad) s v.2 H locs → lv_has ls 3 [(0, .ref (ad a0)), (1, .int l1), (2, .int v.1)] → W p l e (rmK 6 148) s m args below meth c H locs 0 0 (MQ below (cI D ay kC NC ad r0 σ0) args s 0 0 (aN NC ad)) (F0 m 29 ls [])) (hr : ∀ x, o = .inr (x) → x = (r0, σ0)) (w : Wd D ay kC NC ad (aN NC ad) s σ H locs) (hl : lv_has ls 3 [(0, .ref (ad a0)), (1, .int l1), (2, .int l2)]) : W p l e (rmK 6 148) s m args below meth c H locs 0 0 (MQ below (cI D ay kC NC ad r0 σ0) args s 0 0 (aN NC ad)) (F0 m 29 ls []) := by
  have k_a0 := okr_in ok_a0
  unfold F_X11_run_29b at hf
  refine lv_iload_n G.hx G.hb (dcs_get dec_X11_run_0 16 rfl) rfl (lv_at hl 2 rfl) ?_
  refine lv_iload_n G.hx G.hb (dcs_get dec_X11_run_0 17 rfl) rfl (lv_at hl 1 rfl) ?_
  refine lv_icmp_ge (tgt := 59) G.hx G.hb (dcs_get dec_X11_run_0 18 rfl) (by decide) (fun hc => ?_) (fun hc => ?_)
  · rw [if_pos hc] at hf
    refine lv_aload_n G.hx G.hb (dcs_get dec_X11_run_0 30 rfl) rfl (lv_at hl 0 rfl) ?_
    obtain ⟨z1, e_z1, ok_z1, hf⟩ := cR_some hf
    have k_z1 := okr_in ok_z1
    refine r_getr (k := 5) cls11 fi_11_5.1 fi_11_5.2 q_396 G w k_a0.1 k_a0.2 e_z1 (dcs_get dec_X11_run_0 31 rfl) ?_
    refine r_getiN (k := 0) cls10 fi_10_0.1 fi_10_0.2 nf_236 G w k_z1.1 k_z1.2 (dcs_get dec_X11_run_0 32 rfl) ?_
    have e9 := hr _ (Option.some.inj hf).symm
    exact r_iret G w hm (congrArg Prod.fst e9) (congrArg Prod.snd e9) (dcs_get dec_X11_run_0 33 rfl)
  · rw [if_neg hc] at hf
    refine lv_aload_n G.hx G.hb (dcs_get dec_X11_run_0 19 rfl) rfl (lv_at hl 0 rfl) ?_
    obtain ⟨z2, e_z2, ok_z2, hf⟩ := cR_some hf
    have k_z2 := okr_in ok_z2
    refine r_getr (k := 5) cls11 fi_11_5.1 fi_11_5.2 q_396 G w k_a0.1 k_a0.2 e_z2 (dcs_get dec_X11_run_0 20 rfl) ?_
    refine lv_aload_n G.hx G.hb (dcs_get dec_X11_run_0 21 rfl) rfl (lv_at hl 0 rfl) ?_
    obtain ⟨z3, e_z3, ok_z3, hf⟩ := cR_some hf
    have k_z3 := okr_in ok_z3
    refine r_getr (k := 1) cls11 fi_11_1.1 fi_11_1.2 q_392 G w k_a0.1 k_a0.2 e_z3 (dcs_get dec_X11_run_0 22 rfl) ?_
    refine lv_aload_n G.hx G.hb (dcs_get dec_X11_run_0 23 rfl) rfl (lv_at hl 0 rfl) ?_
    obtain ⟨z4, e_z4, ok_z4, hf⟩ := cR_some hf
    have k_z4 := okr_in ok_z4
    refine r_getr (k := 1) cls11 fi_11_1.1 fi_11_1.2 q_392 G w k_a0.1 k_a0.2 e_z4 (dcs_get dec_X11_run_0 24 rfl) ?_
    refine r_getiN (k := 8) cls7 fi_7_8.1 fi_7_8.2 nf_120 G w k_z4.1 k_z4.2 (dcs_get dec_X11_run_0 25 rfl) ?_
    refine lv_iconst (v := (-1 : Int32)) G.hx G.hb (dcs_get dec_X11_run_0 26 rfl) (by decide) ?_
    obtain ⟨σ6, h5, hf⟩ := cB_some hf
    refine a_v (k_VN (As := [.ref (ad z3), .int (σ.1 z4 8), .int (-1 : Int32)]) (rest := []) cls10 lb_X10_passDay lv_X10_passDay nm_808 (C_X10_passDay G.2.2.1 z2 z3 (σ.1 z4 8) (-1 : Int32) σ h5 ok_z2 ok_z3) ⟨(Nat.le_of_ble_eq_true rfl), (Nat.le_of_ble_eq_true rfl)⟩ G w k_z2.1 k_z2.2 rfl rfl hl.1 (Nat.le_of_ble_eq_true rfl) (dcs_get dec_X11_run_0 27 rfl) ⟨Nat.le_refl _, Nat.le_refl _⟩) G w (fun H locs w => ?_)
    obtain ⟨v7, e_v7, hf⟩ := cL_some hf
    refine lv_iinc (v := v7) (lv' := [(2, .int v7), (0, .ref (ad a0)), (1, .int l1)]) G.hx G.hb (dcs_get dec_X11_run_0 28 rfl) hl (k := 2) rfl (by rw [e_v7]; rfl) (by decide) rfl (fun ls hl => ?_)
    refine lv_goto (tgt := 29) G.hx G.hb (dcs_get dec_X11_run_0 29 rfl) (by decide) ?_
    exact hb0 _ (Option.some.inj hf).symm _ _ _ w (lv_sub hl [1, 2, 0] rfl)
set_option maxRecDepth 100000 in
set_option maxHeartbeats 4000000 in
theorem H_X11_run_29 {r0 : Int32} {σ0 : hSt} (a0 : Nat) (l1 : Int32) (G : Gx p m c cX11_run 3 s args RX11 D ay NC ad (aN NC ad)) (hm : meth.sig.returnType = (some .int) ∧ meth.locks = false) (ok_a0 : okr kC NC 11 a0 = true)  : ∀ (k : Nat) (v : Int32 × hSt), lp (S_X11_run_29 a0 l1) k v = some (r0, σ0) → ∀ (H : Heap) (locs : List Loc) (ls : Array Slot), Wd D ay kC NC ad (aN NC ad) s v.2 H locs → lv_has ls 3 [(0, .ref (ad a0)), (1, .int l1), (2, .int v.1)] → W p l e (rmK 6 148) s m args below meth c H locs 0 0 (MQ below (cI D ay kC NC ad r0 σ0) args s 0 0 (aN NC ad)) (F0 m 29 ls []) := by
  intro k
  induction k with
  | zero => intro v hf; cases hf
  | succ k ih =>
    intro v hf H locs ls w hl
    obtain ⟨o1, h1, h2, h3⟩ := lp_some hf
    exact B_X11_run_29b a0 l1 v.1 v.2 G hm ok_a0 h1  (fun v' e => ih v' (h2 v' e)) (fun x e => h3 x e) w hl
set_option maxRecDepth 100000 in
set_option maxHeartbeats 4000000 in
theorem B_X11_run_29 {H : Heap} {locs : List Loc} {ls : Array Slot} {r0 : Int32} {σ0 : hSt} (a0 : Nat) (l1 : Int32) (l2 : Int32) (σ : hSt) (G : Gx p m c cX11_run 3 s args RX11 D ay NC ad (aN NC ad)) (hm : meth.sig.returnType = (some .int) ∧ meth.locks = false) (ok_a0 : okr kC NC 11 a0 = true) (hf : F_X11_run_29 a0 l1 l2 σ = some (r0, σ0))  (w : Wd D ay kC NC ad (aN NC ad) s σ H locs) (hl : lv_has ls 3 [(0, .ref (ad a0)), (1, .int l1), (2, .int l2)]) : W p l e (rmK 6 148) s m args below meth c H locs 0 0 (MQ below (cI D ay kC NC ad r0 σ0) args s 0 0 (aN NC ad)) (F0 m 29 ls []) := by
  unfold F_X11_run_29 at hf
  exact H_X11_run_29 a0 l1  G hm ok_a0  fuel (l2, σ) hf _ _ _ w hl
set_option maxRecDepth 100000 in
set_option maxHeartbeats 4000000 in
theorem B_X11_run_27 {H : Heap} {locs : List Loc} {ls : Array Slot} {r0 : Int32} {σ0 : hSt} (a0 : Nat) (l1 : Int32) (σ : hSt) (G : Gx p m c cX11_run 3 s args RX11 D ay NC ad (aN NC ad)) (hm : meth.sig.returnType = (some .int) ∧ meth.locks = false) (ok_a0 : okr kC NC 11 a0 = true) (hf : F_X11_run_27 a0 l1 σ = some (r0, σ0))  (w : Wd D ay kC NC ad (aN NC ad) s σ H locs) (hl : lv_has ls 3 [(0, .ref (ad a0)), (1, .int l1)]) : W p l e (rmK 6 148) s m args below meth c H locs 0 0 (MQ below (cI D ay kC NC ad r0 σ0) args s 0 0 (aN NC ad)) (F0 m 27 ls []) := by
  have k_a0 := okr_in ok_a0
  unfold F_X11_run_27 at hf
  refine lv_iconst (v := (0 : Int32)) G.hx G.hb (dcs_get dec_X11_run_0 14 rfl) (by decide) ?_
  refine lv_istore_n (lv' := [(2, .int (0 : Int32)), (0, .ref (ad a0)), (1, .int l1)]) G.hx G.hb (dcs_get dec_X11_run_0 15 rfl) rfl hl (by decide) rfl (fun ls hl => ?_)
  exact B_X11_run_29 a0 l1 (0 : Int32) σ G hm ok_a0 hf  w (lv_sub hl [1, 2, 0] rfl)
set_option maxRecDepth 100000 in
set_option maxHeartbeats 4000000 in
theorem B_X11_run_0 {H : Heap} {locs : List Loc} {ls : Array Slot} {r0 : Int32} {σ0 : hSt} (a0 : Nat) (l1 : Int32) (σ : hSt) (G : Gx p m c cX11_run 3 s args RX11 D ay NC ad (aN NC ad)) (hm : meth.sig.returnType = (some .int) ∧ meth.locks = false) (ok_a0 : okr kC NC 11 a0 = true) (hf : F_X11_run a0 l1 σ = some (r0, σ0))  (w : Wd D ay kC NC ad (aN NC ad) s σ H locs) (hl : lv_has ls 3 [(0, .ref (ad a0)), (1, .int l1)]) : W p l e (rmK 6 148) s m args below meth c H locs 0 0 (MQ below (cI D ay kC NC ad r0 σ0) args s 0 0 (aN NC ad)) (F0 m 0 ls []) := by
  have k_a0 := okr_in ok_a0
  unfold F_X11_run at hf
  refine lv_iload_n G.hx G.hb (dcs_get dec_X11_run_0 0 rfl) rfl (lv_at hl 1 rfl) ?_
  refine lv_if_lt (tgt := 10) G.hx G.hb (dcs_get dec_X11_run_0 1 rfl) (by decide) (fun hc => ?_) (fun hc => ?_)
  · rw [if_pos hc] at hf
    exact B_X11_run_10  σ G hm  hf  w (lv_sub hl [] rfl)
  · rw [if_neg hc] at hf
    refine lv_iload_n G.hx G.hb (dcs_get dec_X11_run_0 2 rfl) rfl (lv_at hl 1 rfl) ?_
    refine lv_bipush (v := (100 : Int32)) G.hx G.hb (dcs_get dec_X11_run_0 3 rfl) (by decide) ?_
    refine lv_icmp_le (tgt := 12) G.hx G.hb (dcs_get dec_X11_run_0 4 rfl) (by decide) (fun hc => ?_) (fun hc => ?_)
    · rw [if_pos hc] at hf
      refine lv_iload_n G.hx G.hb (dcs_get dec_X11_run_0 7 rfl) rfl (lv_at hl 1 rfl) ?_
      refine lv_if_le (tgt := 27) G.hx G.hb (dcs_get dec_X11_run_0 8 rfl) (by decide) (fun hc => ?_) (fun hc => ?_)
      · rw [if_pos hc] at hf
        exact B_X11_run_27 a0 l1 σ G hm ok_a0 hf  w (lv_sub hl [0, 1] rfl)
      · rw [if_neg hc] at hf
        refine lv_aload_n G.hx G.hb (dcs_get dec_X11_run_0 9 rfl) rfl (lv_at hl 0 rfl) ?_
        obtain ⟨z8, e_z8, ok_z8, hf⟩ := cR_some hf
        have k_z8 := okr_in ok_z8
        refine r_getr (k := 7) cls11 fi_11_7.1 fi_11_7.2 q_398 G w k_a0.1 k_a0.2 e_z8 (dcs_get dec_X11_run_0 10 rfl) ?_
        refine lv_aload_n G.hx G.hb (dcs_get dec_X11_run_0 11 rfl) rfl (lv_at hl 0 rfl) ?_
        obtain ⟨z9, e_z9, ok_z9, hf⟩ := cR_some hf
        have k_z9 := okr_in ok_z9
        refine r_getr (k := 5) cls11 fi_11_5.1 fi_11_5.2 q_396 G w k_a0.1 k_a0.2 e_z9 (dcs_get dec_X11_run_0 12 rfl) ?_
        obtain ⟨σ11, h10, hf⟩ := cB_some hf
        refine a_v (k_VN (As := [.ref (ad z9)]) (rest := []) cls2 lb_X2_push lv_X2_push nm_759 (C_X2_push G.2.2.1 z8 z9 σ h10 ok_z8 ok_z9) ⟨(Nat.le_of_ble_eq_true rfl), (Nat.le_of_ble_eq_true rfl)⟩ G w k_z8.1 k_z8.2 rfl rfl hl.1 (Nat.le_of_ble_eq_true rfl) (dcs_get dec_X11_run_0 13 rfl) ⟨Nat.le_refl _, Nat.le_refl _⟩) G w (fun H locs w => ?_)
        exact B_X11_run_27 a0 l1 σ11 G hm ok_a0 hf  w (lv_sub hl [0, 1] rfl)
    · rw [if_neg hc] at hf
      exact B_X11_run_10  σ G hm  hf  w (lv_sub hl [] rfl)
end
set_option maxRecDepth 100000 in
set_option maxHeartbeats 4000000 in
theorem C_X11_run {l : Launch} {D : va_G} {ay : Nat → ClassId} {ad : Nat → Nat} (hi : hInj NC ad) (a0 : Nat) (l1 : Int32) (σ : hSt) {r0 : Int32} {σ0 : hSt} (hf : F_X11_run a0 l1 σ = some (r0, σ0)) (ok_a0 : okr kC NC 11 a0 = true) : hM l D ay kC NC ad yX11_run cX11_run 3 ((some .int)) (rmK 6 148) [.ref (ad a0), .int l1] σ (cI D ay kC NC ad r0 σ0) := by
  refine hM_in (by decide) hi (Nat.le_of_ble_eq_true rfl) ?_
  intro p e s m below meth c G hm w ls hl
  exact B_X11_run_0 a0 l1 σ G hm ok_a0 hf w (lv_sub hl [0, 1] rfl)

/-! HillDrums.undo()Z -/
def DL_X11_undo_0 : List (Nat × Instr × Nat) := [(0, .aload_n 0, 1), (1, .getfield 52, 3), (4, .aload_n 0, 1), (5, .getfield 42, 3), (8, .invokevirtual 206, 3), (11, .ireturn, 1)]
set_option maxRecDepth 100000 in
theorem dec_X11_undo_0 : dcs cX11_undo DL_X11_undo_0 = true := by decide +kernel
theorem lb_X11_undo : lkB yX11_undo cX11_undo 1 ((some .boolean)) 0 := ⟨q_819, q_1, ⟨by decide, by decide⟩, by decide +kernel⟩
theorem lv_X11_undo : lkV yX11_undo := ⟨q_817, q_818⟩
def F_X11_undo (a0 : Nat) (σ : hSt) : Option (Int32 × hSt) :=
cR (σ.2.2 a0 7) (okr kC NC 2) fun z1 =>
cR (σ.2.2 a0 5) (okr kC NC 10) fun z2 =>
cC (F_X2_pop z1 z2 σ) fun v4 σ5 =>
cG (isB v4) <|
some ((v4, σ5))
section
variable {p : Program} {l : Launch} {e : Env} {s : State} {m : MethodId} {args : Array Value} {below : List Frame} {meth : Method} {c : Code} {D : va_G} {ay : Nat → ClassId} {ad : Nat → Nat}
set_option maxRecDepth 100000 in
set_option maxHeartbeats 4000000 in
theorem B_X11_undo_0 {H : Heap} {locs : List Loc} {ls : Array Slot} {r0 : Int32} {σ0 : hSt} (a0 : Nat) (σ : hSt) (G : Gx p m c cX11_undo 1 s args RX11 D ay NC ad (aN NC ad)) (hm : meth.sig.returnType = (some .boolean) ∧ meth.locks = false) (ok_a0 : okr kC NC 11 a0 = true) (hf : F_X11_undo a0 σ = some (r0, σ0))  (w : Wd D ay kC NC ad (aN NC ad) s σ H locs) (hl : lv_has ls 1 [(0, .ref (ad a0))]) : W p l e (rmK 3 103) s m args below meth c H locs 0 0 (MQ below (cI D ay kC NC ad r0 σ0) args s 0 0 (aN NC ad)) (F0 m 0 ls []) := by
  have k_a0 := okr_in ok_a0
  unfold F_X11_undo at hf
  refine lv_aload_n G.hx G.hb (dcs_get dec_X11_undo_0 0 rfl) rfl (lv_at hl 0 rfl) ?_
  obtain ⟨z1, e_z1, ok_z1, hf⟩ := cR_some hf
  have k_z1 := okr_in ok_z1
  refine r_getr (k := 7) cls11 fi_11_7.1 fi_11_7.2 q_398 G w k_a0.1 k_a0.2 e_z1 (dcs_get dec_X11_undo_0 1 rfl) ?_
  refine lv_aload_n G.hx G.hb (dcs_get dec_X11_undo_0 2 rfl) rfl (lv_at hl 0 rfl) ?_
  obtain ⟨z2, e_z2, ok_z2, hf⟩ := cR_some hf
  have k_z2 := okr_in ok_z2
  refine r_getr (k := 5) cls11 fi_11_5.1 fi_11_5.2 q_396 G w k_a0.1 k_a0.2 e_z2 (dcs_get dec_X11_undo_0 3 rfl) ?_
  obtain ⟨v4, σ5, h3, hf⟩ := cC_some hf
  refine a_i (k_VN (As := [.ref (ad z2)]) (rest := []) cls2 lb_X2_pop lv_X2_pop nm_820 (C_X2_pop G.2.2.1 z1 z2 σ h3 ok_z1 ok_z2) ⟨(Nat.le_of_ble_eq_true rfl), (Nat.le_of_ble_eq_true rfl)⟩ G w k_z1.1 k_z1.2 rfl rfl hl.1 (Nat.le_of_ble_eq_true rfl) (dcs_get dec_X11_undo_0 4 rfl) ⟨Nat.le_refl _, Nat.le_refl _⟩) G w (fun H locs w => ?_)
  obtain ⟨h6, hf⟩ := cG_some hf
  have e9 := Option.some.inj hf
  exact r_zret (isB_nar h6) G w hm (congrArg Prod.fst e9) (congrArg Prod.snd e9) (dcs_get dec_X11_undo_0 5 rfl)
end
set_option maxRecDepth 100000 in
set_option maxHeartbeats 4000000 in
theorem C_X11_undo {l : Launch} {D : va_G} {ay : Nat → ClassId} {ad : Nat → Nat} (hi : hInj NC ad) (a0 : Nat) (σ : hSt) {r0 : Int32} {σ0 : hSt} (hf : F_X11_undo a0 σ = some (r0, σ0)) (ok_a0 : okr kC NC 11 a0 = true) : hM l D ay kC NC ad yX11_undo cX11_undo 1 ((some .boolean)) (rmK 3 103) [.ref (ad a0)] σ (cI D ay kC NC ad r0 σ0) := by
  refine hM_in (by decide) hi (Nat.le_of_ble_eq_true rfl) ?_
  intro p e s m below meth c G hm w ls hl
  exact B_X11_undo_0 a0 σ G hm ok_a0 hf w (lv_sub hl [0] rfl)

/-! HillDrums.clashes(I)I -/
def DL_X11_clashes_0 : List (Nat × Instr × Nat) := [(0, .aload_n 0, 1), (1, .iload_n 1, 1), (2, .invokevirtual 128, 3), (5, .ifCond .eq 17, 3), (8, .aload_n 0, 1), (9, .getfield 42, 3), (12, .invokevirtual 139, 3), (15, .iload_n 1, 1), (16, .invokestatic 210, 3), (19, .goto 4, 3), (22, .iconst (-1), 1), (23, .ireturn, 1)]
set_option maxRecDepth 100000 in
theorem dec_X11_clashes_0 : dcs cX11_clashes DL_X11_clashes_0 = true := by decide +kernel
theorem lb_X11_clashes : lkB yX11_clashes cX11_clashes 2 ((some .int)) 1 := ⟨q_827, q_1, ⟨by decide, by decide⟩, by decide +kernel⟩
theorem lv_X11_clashes : lkV yX11_clashes := ⟨q_825, q_826⟩
def F_X11_clashes_23 (s0 : Int32) (σ : hSt) : Option (Int32) :=
some (s0)
def F_X11_clashes (a0 : Nat) (l1 : Int32) (σ : hSt) : Option (Int32) :=
(F_X11_isNews a0 l1 σ).bind fun v2 =>
if v2 = 0 then (
F_X11_clashes_23 (-1 : Int32) σ) else (
cR (σ.2.2 a0 5) (okr kC NC 10) fun z3 =>
(F_X10_clashing z3 σ).bind fun v5 =>
(F_X11_rowOf v5 l1 σ).bind fun v7 =>
F_X11_clashes_23 v7 σ)
section
variable {p : Program} {l : Launch} {e : Env} {s : State} {m : MethodId} {args : Array Value} {below : List Frame} {meth : Method} {c : Code} {D : va_G} {ay : Nat → ClassId} {ad : Nat → Nat}
set_option maxRecDepth 100000 in
set_option maxHeartbeats 4000000 in
theorem B_X11_clashes_23 {H : Heap} {locs : List Loc} {ls : Array Slot} {r0 : Int32} (s0 : Int32) (σ : hSt) (G : Gx p m c cX11_clashes 2 s args RX11 D ay NC ad (aN NC ad)) (hm : meth.sig.returnType = (some .int) ∧ meth.locks = false)  (hf : F_X11_clashes_23 s0 σ = some r0)  (w : Wd D ay kC NC ad (aN NC ad) s σ H locs) (hl : lv_has ls 2 []) : W p l e (rmK 1 21) s m args below meth c H locs 0 0 (MQ below (cI D ay kC NC ad r0 σ) args s 0 0 (aN NC ad)) (F0 m 23 ls [.int s0]) := by
  unfold F_X11_clashes_23 at hf
  have e9 := Option.some.inj hf
  exact r_iret G w hm e9 rfl (dcs_get dec_X11_clashes_0 11 rfl)
set_option maxRecDepth 100000 in
set_option maxHeartbeats 4000000 in
theorem B_X11_clashes_0 {H : Heap} {locs : List Loc} {ls : Array Slot} {r0 : Int32} (a0 : Nat) (l1 : Int32) (σ : hSt) (G : Gx p m c cX11_clashes 2 s args RX11 D ay NC ad (aN NC ad)) (hm : meth.sig.returnType = (some .int) ∧ meth.locks = false) (ok_a0 : okr kC NC 11 a0 = true) (hf : F_X11_clashes a0 l1 σ = some r0)  (w : Wd D ay kC NC ad (aN NC ad) s σ H locs) (hl : lv_has ls 2 [(0, .ref (ad a0)), (1, .int l1)]) : W p l e (rmK 1 21) s m args below meth c H locs 0 0 (MQ below (cI D ay kC NC ad r0 σ) args s 0 0 (aN NC ad)) (F0 m 0 ls []) := by
  have k_a0 := okr_in ok_a0
  unfold F_X11_clashes at hf
  refine lv_aload_n G.hx G.hb (dcs_get dec_X11_clashes_0 0 rfl) rfl (lv_at hl 0 rfl) ?_
  refine lv_iload_n G.hx G.hb (dcs_get dec_X11_clashes_0 1 rfl) rfl (lv_at hl 1 rfl) ?_
  obtain ⟨v2, h1, hf⟩ := cB_some hf
  refine a_i (k_V (As := [.int l1]) (rest := []) cls11 lb_X11_isNews lv_X11_isNews q_720 (C_X11_isNews G.2.2.1 a0 l1 σ h1 ok_a0) ⟨(Nat.le_of_ble_eq_true rfl), (Nat.le_of_ble_eq_true rfl)⟩ G w k_a0.1 k_a0.2 rfl rfl hl.1 (Nat.le_of_ble_eq_true rfl) (dcs_get dec_X11_clashes_0 2 rfl) ⟨Nat.le_refl _, Nat.le_refl _⟩) G w (fun H locs w => ?_)
  refine lv_if_eq (tgt := 22) G.hx G.hb (dcs_get dec_X11_clashes_0 3 rfl) (by decide) (fun hc => ?_) (fun hc => ?_)
  · rw [if_pos hc] at hf
    refine lv_iconst (v := (-1 : Int32)) G.hx G.hb (dcs_get dec_X11_clashes_0 10 rfl) (by decide) ?_
    exact B_X11_clashes_23 (-1 : Int32) σ G hm  hf  w (lv_sub hl [] rfl)
  · rw [if_neg hc] at hf
    refine lv_aload_n G.hx G.hb (dcs_get dec_X11_clashes_0 4 rfl) rfl (lv_at hl 0 rfl) ?_
    obtain ⟨z3, e_z3, ok_z3, hf⟩ := cR_some hf
    have k_z3 := okr_in ok_z3
    refine r_getr (k := 5) cls11 fi_11_5.1 fi_11_5.2 q_396 G w k_a0.1 k_a0.2 e_z3 (dcs_get dec_X11_clashes_0 5 rfl) ?_
    obtain ⟨v5, h4, hf⟩ := cB_some hf
    refine a_i (k_VN (As := []) (rest := []) cls10 lb_X10_clashing lv_X10_clashing nm_729 (C_X10_clashing G.2.2.1 z3 σ h4 ok_z3) ⟨(Nat.le_of_ble_eq_true rfl), (Nat.le_of_ble_eq_true rfl)⟩ G w k_z3.1 k_z3.2 rfl rfl hl.1 (Nat.le_of_ble_eq_true rfl) (dcs_get dec_X11_clashes_0 6 rfl) ⟨Nat.le_refl _, Nat.le_refl _⟩) G w (fun H locs w => ?_)
    refine lv_iload_n G.hx G.hb (dcs_get dec_X11_clashes_0 7 rfl) rfl (lv_at hl 1 rfl) ?_
    obtain ⟨v7, h6, hf⟩ := cB_some hf
    refine a_i (k_S (As := [.int v5, .int l1]) (rest := []) lb_X11_rowOf q_829 q_828 (C_X11_rowOf G.2.2.1 v5 l1 σ h6 ) ⟨(Nat.le_of_ble_eq_true rfl), (Nat.le_of_ble_eq_true rfl)⟩ G w rfl rfl hl.1 (Nat.le_of_ble_eq_true rfl) (dcs_get dec_X11_clashes_0 8 rfl) ⟨Nat.le_refl _, Nat.le_refl _⟩) G w (fun H locs w => ?_)
    refine lv_goto (tgt := 23) G.hx G.hb (dcs_get dec_X11_clashes_0 9 rfl) (by decide) ?_
    exact B_X11_clashes_23 v7 σ G hm  hf  w (lv_sub hl [] rfl)
end
set_option maxRecDepth 100000 in
set_option maxHeartbeats 4000000 in
theorem C_X11_clashes {l : Launch} {D : va_G} {ay : Nat → ClassId} {ad : Nat → Nat} (hi : hInj NC ad) (a0 : Nat) (l1 : Int32) (σ : hSt) {r0 : Int32} (hf : F_X11_clashes a0 l1 σ = some r0) (ok_a0 : okr kC NC 11 a0 = true) : hM l D ay kC NC ad yX11_clashes cX11_clashes 2 ((some .int)) (rmK 1 21) [.ref (ad a0), .int l1] σ (cI D ay kC NC ad r0 σ) := by
  refine hM_in (by decide) hi (Nat.le_of_ble_eq_true rfl) ?_
  intro p e s m below meth c G hm w ls hl
  exact B_X11_clashes_0 a0 l1 σ G hm ok_a0 hf w (lv_sub hl [0, 1] rfl)

/-! HillDrums.daysTill(III)I -/
def DL_X11_daysTill_0 : List (Nat × Instr × Nat) := [(0, .aload_n 0, 1), (1, .getfield 46, 3), (4, .aload_n 0, 1), (5, .getfield 42, 3), (8, .invokevirtual 213, 3), (11, .iconst 0, 1), (12, .istore 4, 2), (14, .iload 4, 2), (16, .sipush 200, 3), (19, .if_icmp .ge 38, 3), (22, .aload_n 0, 1), (23, .getfield 46, 3), (26, .getfield 216, 3), (29, .iload_n 1, 1), (30, .iand, 1), (31, .iload_n 1, 1), (32, .if_icmp .ne 6, 3), (35, .iload 4, 2), (37, .ireturn, 1), (38, .aload_n 0, 1), (39, .getfield 46, 3), (42, .aload_n 0, 1), (43, .getfield 19, 3), (46, .iload_n 2, 1), (47, .iload_n 3, 1), (48, .invokevirtual 202, 3), (51, .iinc 4 1, 3), (54, .goto (-40), 3), (57, .aload_n 0, 1), (58, .getfield 46, 3), (61, .getfield 216, 3), (64, .iload_n 1, 1), (65, .iand, 1), (66, .iload_n 1, 1), (67, .if_icmp .ne 9, 3), (70, .sipush 200, 3), (73, .goto 5, 3), (76, .bipush (-2), 2), (78, .ireturn, 1)]
set_option maxRecDepth 100000 in
theorem dec_X11_daysTill_0 : dcs cX11_daysTill DL_X11_daysTill_0 = true := by decide +kernel
theorem lb_X11_daysTill : lkB yX11_daysTill cX11_daysTill 5 ((some .int)) 3 := ⟨q_838, q_1, ⟨by decide, by decide⟩, by decide +kernel⟩
theorem lv_X11_daysTill : lkV yX11_daysTill := ⟨q_837, qs_51⟩
def F_X11_daysTill_78 (s0 : Int32) (σ : hSt) : Option (Int32 × hSt) :=
some ((s0, σ))
def F_X11_daysTill_14b (a0 : Nat) (l1 : Int32) (l2 : Int32) (l3 : Int32) (l4 : Int32) (σ : hSt) : Option ((Int32 × hSt) ⊕ (Int32 × hSt)) :=
if (200 : Int32) ≤ l4 then (
cR (σ.2.2 a0 6) (okr kC NC 10) fun z1 =>
if ((σ.1 z1 1) &&& l1) = l1 then (
(F_X11_daysTill_78 (200 : Int32) σ).map (fun x => .inr (x))) else (
(F_X11_daysTill_78 (-2 : Int32) σ).map (fun x => .inr (x)))) else (
cR (σ.2.2 a0 6) (okr kC NC 10) fun z2 =>
if ((σ.1 z2 1) &&& l1) = l1 then (
some (.inr ((l4, σ)))) else (
cR (σ.2.2 a0 6) (okr kC NC 10) fun z3 =>
cR (σ.2.2 a0 1) (okr kC NC 7) fun z4 =>
(F_X10_passDay z3 z4 l2 l3 σ).bind fun σ6 =>
cL (l4 + (1 : Int32)) fun v7 =>
some (.inl (v7, σ6))))
def S_X11_daysTill_14 (a0 : Nat) (l1 : Int32) (l2 : Int32) (l3 : Int32) (v : Int32 × hSt) : Option ((Int32 × hSt) ⊕ (Int32 × hSt)) := F_X11_daysTill_14b a0 l1 l2 l3 v.1 v.2
def F_X11_daysTill_14 (a0 : Nat) (l1 : Int32) (l2 : Int32) (l3 : Int32) (l4 : Int32) (σ : hSt) : Option (Int32 × hSt) := lp (S_X11_daysTill_14 a0 l1 l2 l3) fuel (l4, σ)
def F_X11_daysTill (a0 : Nat) (l1 : Int32) (l2 : Int32) (l3 : Int32) (σ : hSt) : Option (Int32 × hSt) :=
cR (σ.2.2 a0 6) (okr kC NC 10) fun z8 =>
cR (σ.2.2 a0 5) (okr kC NC 10) fun z9 =>
(F_X10_copy z8 z9 σ).bind fun σ11 =>
F_X11_daysTill_14 a0 l1 l2 l3 (0 : Int32) σ11
section
variable {p : Program} {l : Launch} {e : Env} {s : State} {m : MethodId} {args : Array Value} {below : List Frame} {meth : Method} {c : Code} {D : va_G} {ay : Nat → ClassId} {ad : Nat → Nat}
set_option maxRecDepth 100000 in
set_option maxHeartbeats 4000000 in
theorem B_X11_daysTill_78 {H : Heap} {locs : List Loc} {ls : Array Slot} {r0 : Int32} {σ0 : hSt} (s0 : Int32) (σ : hSt) (G : Gx p m c cX11_daysTill 5 s args RX11 D ay NC ad (aN NC ad)) (hm : meth.sig.returnType = (some .int) ∧ meth.locks = false)  (hf : F_X11_daysTill_78 s0 σ = some (r0, σ0))  (w : Wd D ay kC NC ad (aN NC ad) s σ H locs) (hl : lv_has ls 5 []) : W p l e (rmK 6 148) s m args below meth c H locs 0 0 (MQ below (cI D ay kC NC ad r0 σ0) args s 0 0 (aN NC ad)) (F0 m 78 ls [.int s0]) := by
  unfold F_X11_daysTill_78 at hf
  have e9 := Option.some.inj hf
  exact r_iret G w hm (congrArg Prod.fst e9) (congrArg Prod.snd e9) (dcs_get dec_X11_daysTill_0 38 rfl)
set_option maxRecDepth 100000 in
set_option maxHeartbeats 4000000 in
theorem B_X11_daysTill_14b {H : Heap} {locs : List Loc} {ls : Array Slot} {r0 : Int32} {σ0 : hSt} {o : (Int32 × hSt) ⊕ (Int32 × hSt)} (a0 : Nat) (l1 : Int32) (l2 : Int32) (l3 : Int32) (l4 : Int32) (σ : hSt) (G : Gx p m c cX11_daysTill 5 s args RX11 D ay NC ad (aN NC ad)) (hm : meth.sig.returnType = (some .int) ∧ meth.locks = false) (ok_a0 : okr kC NC 11 a0 = true) (hf : F_X11_daysTill_14b a0 l1 l2 l3 l4 σ = some o) (hb0 : ∀ (v : Int32 × hSt), o = .inl v → ∀ (H : Heap) (locs : List Loc) (ls : Array Slot), Wd D ay kC NC ad (aN NC ad) s v.2 H locs → lv_has ls 5 [(0, .ref (ad a0)), (1, .int l1), (2, .int l2), (3, .int l3), (4, .int v.1)] → W p l e (rmK 6 148) s m args below meth c H locs 0 0 (MQ below (cI D ay kC NC ad r0 σ0) args s 0 0 (aN NC ad)) (F0 m 14 ls [])) (hr : ∀ x, o = .inr (x) → x = (r0, σ0)) (w : Wd D ay kC NC ad (aN NC ad) s σ H locs) (hl : lv_has ls 5 [(0, .ref (ad a0)), (1, .int l1), (2, .int l2), (3, .int l3), (4, .int l4)]) : W p l e (rmK 6 148) s m args below meth c H locs 0 0 (MQ below (cI D ay kC NC ad r0 σ0) args s 0 0 (aN NC ad)) (F0 m 14 ls []) := by
  have k_a0 := okr_in ok_a0
  unfold F_X11_daysTill_14b at hf
  refine lv_iload G.hx G.hb (dcs_get dec_X11_daysTill_0 7 rfl) (lv_at hl 4 rfl) ?_
  refine lv_sipush (v := (200 : Int32)) G.hx G.hb (dcs_get dec_X11_daysTill_0 8 rfl) (by decide) ?_
  refine lv_icmp_ge (tgt := 57) G.hx G.hb (dcs_get dec_X11_daysTill_0 9 rfl) (by decide) (fun hc => ?_) (fun hc => ?_)
  · rw [if_pos hc] at hf
    refine lv_aload_n G.hx G.hb (dcs_get dec_X11_daysTill_0 28 rfl) rfl (lv_at hl 0 rfl) ?_
    obtain ⟨z1, e_z1, ok_z1, hf⟩ := cR_some hf
    have k_z1 := okr_in ok_z1
    refine r_getr (k := 6) cls11 fi_11_6.1 fi_11_6.2 q_397 G w k_a0.1 k_a0.2 e_z1 (dcs_get dec_X11_daysTill_0 29 rfl) ?_
    refine r_getiN (k := 1) cls10 fi_10_1.1 fi_10_1.2 nf_239 G w k_z1.1 k_z1.2 (dcs_get dec_X11_daysTill_0 30 rfl) ?_
    refine lv_iload_n G.hx G.hb (dcs_get dec_X11_daysTill_0 31 rfl) rfl (lv_at hl 1 rfl) ?_
    refine lv_iand G.hx G.hb (dcs_get dec_X11_daysTill_0 32 rfl) ?_
    refine lv_iload_n G.hx G.hb (dcs_get dec_X11_daysTill_0 33 rfl) rfl (lv_at hl 1 rfl) ?_
    refine lv_icmp_ne (tgt := 76) G.hx G.hb (dcs_get dec_X11_daysTill_0 34 rfl) (by decide) (fun hc => ?_) (fun hc => ?_)
    · rw [if_neg hc] at hf
      refine lv_bipush (v := (-2 : Int32)) G.hx G.hb (dcs_get dec_X11_daysTill_0 37 rfl) (by decide) ?_
      obtain ⟨x9, h9, e9⟩ := map_some_inv hf
      subst e9
      have e8 := hr _ rfl
      rw [e8] at h9
      exact B_X11_daysTill_78 (-2 : Int32) σ G hm  h9 w (lv_sub hl [] rfl)
    · rw [if_pos hc] at hf
      refine lv_sipush (v := (200 : Int32)) G.hx G.hb (dcs_get dec_X11_daysTill_0 35 rfl) (by decide) ?_
      refine lv_goto (tgt := 78) G.hx G.hb (dcs_get dec_X11_daysTill_0 36 rfl) (by decide) ?_
      obtain ⟨x9, h9, e9⟩ := map_some_inv hf
      subst e9
      have e8 := hr _ rfl
      rw [e8] at h9
      exact B_X11_daysTill_78 (200 : Int32) σ G hm  h9 w (lv_sub hl [] rfl)
  · rw [if_neg hc] at hf
    refine lv_aload_n G.hx G.hb (dcs_get dec_X11_daysTill_0 10 rfl) rfl (lv_at hl 0 rfl) ?_
    obtain ⟨z2, e_z2, ok_z2, hf⟩ := cR_some hf
    have k_z2 := okr_in ok_z2
    refine r_getr (k := 6) cls11 fi_11_6.1 fi_11_6.2 q_397 G w k_a0.1 k_a0.2 e_z2 (dcs_get dec_X11_daysTill_0 11 rfl) ?_
    refine r_getiN (k := 1) cls10 fi_10_1.1 fi_10_1.2 nf_239 G w k_z2.1 k_z2.2 (dcs_get dec_X11_daysTill_0 12 rfl) ?_
    refine lv_iload_n G.hx G.hb (dcs_get dec_X11_daysTill_0 13 rfl) rfl (lv_at hl 1 rfl) ?_
    refine lv_iand G.hx G.hb (dcs_get dec_X11_daysTill_0 14 rfl) ?_
    refine lv_iload_n G.hx G.hb (dcs_get dec_X11_daysTill_0 15 rfl) rfl (lv_at hl 1 rfl) ?_
    refine lv_icmp_ne (tgt := 38) G.hx G.hb (dcs_get dec_X11_daysTill_0 16 rfl) (by decide) (fun hc => ?_) (fun hc => ?_)
    · rw [if_neg hc] at hf
      refine lv_aload_n G.hx G.hb (dcs_get dec_X11_daysTill_0 19 rfl) rfl (lv_at hl 0 rfl) ?_
      obtain ⟨z3, e_z3, ok_z3, hf⟩ := cR_some hf
      have k_z3 := okr_in ok_z3
      refine r_getr (k := 6) cls11 fi_11_6.1 fi_11_6.2 q_397 G w k_a0.1 k_a0.2 e_z3 (dcs_get dec_X11_daysTill_0 20 rfl) ?_
      refine lv_aload_n G.hx G.hb (dcs_get dec_X11_daysTill_0 21 rfl) rfl (lv_at hl 0 rfl) ?_
      obtain ⟨z4, e_z4, ok_z4, hf⟩ := cR_some hf
      have k_z4 := okr_in ok_z4
      refine r_getr (k := 1) cls11 fi_11_1.1 fi_11_1.2 q_392 G w k_a0.1 k_a0.2 e_z4 (dcs_get dec_X11_daysTill_0 22 rfl) ?_
      refine lv_iload_n G.hx G.hb (dcs_get dec_X11_daysTill_0 23 rfl) rfl (lv_at hl 2 rfl) ?_
      refine lv_iload_n G.hx G.hb (dcs_get dec_X11_daysTill_0 24 rfl) rfl (lv_at hl 3 rfl) ?_
      obtain ⟨σ6, h5, hf⟩ := cB_some hf
      refine a_v (k_VN (As := [.ref (ad z4), .int l2, .int l3]) (rest := []) cls10 lb_X10_passDay lv_X10_passDay nm_808 (C_X10_passDay G.2.2.1 z3 z4 l2 l3 σ h5 ok_z3 ok_z4) ⟨(Nat.le_of_ble_eq_true rfl), (Nat.le_of_ble_eq_true rfl)⟩ G w k_z3.1 k_z3.2 rfl rfl hl.1 (Nat.le_of_ble_eq_true rfl) (dcs_get dec_X11_daysTill_0 25 rfl) ⟨Nat.le_refl _, Nat.le_refl _⟩) G w (fun H locs w => ?_)
      obtain ⟨v7, e_v7, hf⟩ := cL_some hf
      refine lv_iinc (v := v7) (lv' := [(4, .int v7), (0, .ref (ad a0)), (1, .int l1), (2, .int l2), (3, .int l3)]) G.hx G.hb (dcs_get dec_X11_daysTill_0 26 rfl) hl (k := 4) rfl (by rw [e_v7]; rfl) (by decide) rfl (fun ls hl => ?_)
      refine lv_goto (tgt := 14) G.hx G.hb (dcs_get dec_X11_daysTill_0 27 rfl) (by decide) ?_
      exact hb0 _ (Option.some.inj hf).symm _ _ _ w (lv_sub hl [1, 2, 3, 4, 0] rfl)
    · rw [if_pos hc] at hf
      refine lv_iload G.hx G.hb (dcs_get dec_X11_daysTill_0 17 rfl) (lv_at hl 4 rfl) ?_
      have e9 := hr _ (Option.some.inj hf).symm
      exact r_iret G w hm (congrArg Prod.fst e9) (congrArg Prod.snd e9) (dcs_get dec_X11_daysTill_0 18 rfl)
set_option maxRecDepth 100000 in
set_option maxHeartbeats 4000000 in
theorem H_X11_daysTill_14 {r0 : Int32} {σ0 : hSt} (a0 : Nat) (l1 : Int32) (l2 : Int32) (l3 : Int32) (G : Gx p m c cX11_daysTill 5 s args RX11 D ay NC ad (aN NC ad)) (hm : meth.sig.returnType = (some .int) ∧ meth.locks = false) (ok_a0 : okr kC NC 11 a0 = true)  : ∀ (k : Nat) (v : Int32 × hSt), lp (S_X11_daysTill_14 a0 l1 l2 l3) k v = some (r0, σ0) → ∀ (H : Heap) (locs : List Loc) (ls : Array Slot), Wd D ay kC NC ad (aN NC ad) s v.2 H locs → lv_has ls 5 [(0, .ref (ad a0)), (1, .int l1), (2, .int l2), (3, .int l3), (4, .int v.1)] → W p l e (rmK 6 148) s m args below meth c H locs 0 0 (MQ below (cI D ay kC NC ad r0 σ0) args s 0 0 (aN NC ad)) (F0 m 14 ls []) := by
  intro k
  induction k with
  | zero => intro v hf; cases hf
  | succ k ih =>
    intro v hf H locs ls w hl
    obtain ⟨o1, h1, h2, h3⟩ := lp_some hf
    exact B_X11_daysTill_14b a0 l1 l2 l3 v.1 v.2 G hm ok_a0 h1  (fun v' e => ih v' (h2 v' e)) (fun x e => h3 x e) w hl
set_option maxRecDepth 100000 in
set_option maxHeartbeats 4000000 in
theorem B_X11_daysTill_14 {H : Heap} {locs : List Loc} {ls : Array Slot} {r0 : Int32} {σ0 : hSt} (a0 : Nat) (l1 : Int32) (l2 : Int32) (l3 : Int32) (l4 : Int32) (σ : hSt) (G : Gx p m c cX11_daysTill 5 s args RX11 D ay NC ad (aN NC ad)) (hm : meth.sig.returnType = (some .int) ∧ meth.locks = false) (ok_a0 : okr kC NC 11 a0 = true) (hf : F_X11_daysTill_14 a0 l1 l2 l3 l4 σ = some (r0, σ0))  (w : Wd D ay kC NC ad (aN NC ad) s σ H locs) (hl : lv_has ls 5 [(0, .ref (ad a0)), (1, .int l1), (2, .int l2), (3, .int l3), (4, .int l4)]) : W p l e (rmK 6 148) s m args below meth c H locs 0 0 (MQ below (cI D ay kC NC ad r0 σ0) args s 0 0 (aN NC ad)) (F0 m 14 ls []) := by
  unfold F_X11_daysTill_14 at hf
  exact H_X11_daysTill_14 a0 l1 l2 l3  G hm ok_a0  fuel (l4, σ) hf _ _ _ w hl
set_option maxRecDepth 100000 in
set_option maxHeartbeats 4000000 in
theorem B_X11_daysTill_0 {H : Heap} {locs : List Loc} {ls : Array Slot} {r0 : Int32} {σ0 : hSt} (a0 : Nat) (l1 : Int32) (l2 : Int32) (l3 : Int32) (σ : hSt) (G : Gx p m c cX11_daysTill 5 s args RX11 D ay NC ad (aN NC ad)) (hm : meth.sig.returnType = (some .int) ∧ meth.locks = false) (ok_a0 : okr kC NC 11 a0 = true) (hf : F_X11_daysTill a0 l1 l2 l3 σ = some (r0, σ0))  (w : Wd D ay kC NC ad (aN NC ad) s σ H locs) (hl : lv_has ls 5 [(0, .ref (ad a0)), (1, .int l1), (2, .int l2), (3, .int l3)]) : W p l e (rmK 6 148) s m args below meth c H locs 0 0 (MQ below (cI D ay kC NC ad r0 σ0) args s 0 0 (aN NC ad)) (F0 m 0 ls []) := by
  have k_a0 := okr_in ok_a0
  unfold F_X11_daysTill at hf
  refine lv_aload_n G.hx G.hb (dcs_get dec_X11_daysTill_0 0 rfl) rfl (lv_at hl 0 rfl) ?_
  obtain ⟨z8, e_z8, ok_z8, hf⟩ := cR_some hf
  have k_z8 := okr_in ok_z8
  refine r_getr (k := 6) cls11 fi_11_6.1 fi_11_6.2 q_397 G w k_a0.1 k_a0.2 e_z8 (dcs_get dec_X11_daysTill_0 1 rfl) ?_
  refine lv_aload_n G.hx G.hb (dcs_get dec_X11_daysTill_0 2 rfl) rfl (lv_at hl 0 rfl) ?_
  obtain ⟨z9, e_z9, ok_z9, hf⟩ := cR_some hf
  have k_z9 := okr_in ok_z9
  refine r_getr (k := 5) cls11 fi_11_5.1 fi_11_5.2 q_396 G w k_a0.1 k_a0.2 e_z9 (dcs_get dec_X11_daysTill_0 3 rfl) ?_
  obtain ⟨σ11, h10, hf⟩ := cB_some hf
  refine a_v (k_VN (As := [.ref (ad z9)]) (rest := []) cls10 lb_X10_copy lv_X10_copy nm_839 (C_X10_copy G.2.2.1 z8 z9 σ h10 ok_z8 ok_z9) ⟨(Nat.le_of_ble_eq_true rfl), (Nat.le_of_ble_eq_true rfl)⟩ G w k_z8.1 k_z8.2 rfl rfl hl.1 (Nat.le_of_ble_eq_true rfl) (dcs_get dec_X11_daysTill_0 4 rfl) ⟨Nat.le_refl _, Nat.le_refl _⟩) G w (fun H locs w => ?_)
  refine lv_iconst (v := (0 : Int32)) G.hx G.hb (dcs_get dec_X11_daysTill_0 5 rfl) (by decide) ?_
  refine lv_istore (lv' := [(4, .int (0 : Int32)), (0, .ref (ad a0)), (1, .int l1), (2, .int l2), (3, .int l3)]) G.hx G.hb (dcs_get dec_X11_daysTill_0 6 rfl) hl (by decide) rfl (fun ls hl => ?_)
  exact B_X11_daysTill_14 a0 l1 l2 l3 (0 : Int32) σ11 G hm ok_a0 hf  w (lv_sub hl [1, 2, 3, 4, 0] rfl)
end
set_option maxRecDepth 100000 in
set_option maxHeartbeats 4000000 in
theorem C_X11_daysTill {l : Launch} {D : va_G} {ay : Nat → ClassId} {ad : Nat → Nat} (hi : hInj NC ad) (a0 : Nat) (l1 : Int32) (l2 : Int32) (l3 : Int32) (σ : hSt) {r0 : Int32} {σ0 : hSt} (hf : F_X11_daysTill a0 l1 l2 l3 σ = some (r0, σ0)) (ok_a0 : okr kC NC 11 a0 = true) : hM l D ay kC NC ad yX11_daysTill cX11_daysTill 5 ((some .int)) (rmK 6 148) [.ref (ad a0), .int l1, .int l2, .int l3] σ (cI D ay kC NC ad r0 σ0) := by
  refine hM_in (by decide) hi (Nat.le_of_ble_eq_true rfl) ?_
  intro p e s m below meth c G hm w ls hl
  exact B_X11_daysTill_0 a0 l1 l2 l3 σ G hm ok_a0 hf w (lv_sub hl [0, 1, 2, 3] rfl)

/-! HillDrums.byRule(II)I -/
def DL_X11_byRule_0 : List (Nat × Instr × Nat) := [(0, .aload_n 0, 1), (1, .iload_n 1, 1), (2, .invokevirtual 128, 3), (5, .ifCond .eq 11, 3), (8, .aload_n 0, 1), (9, .iload_n 2, 1), (10, .invokevirtual 120, 3), (13, .ifCond .ne 5, 3), (16, .iconst (-1), 1), (17, .ireturn, 1), (18, .aload_n 0, 1), (19, .iconst 1, 1), (20, .iload_n 2, 1), (21, .iload_n 1, 1), (22, .invokestatic 135, 3), (25, .ishl, 1), (26, .aload_n 0, 1), (27, .getfield 19, 3), (30, .getfield 185, 3), (33, .iconst (-1), 1), (34, .invokevirtual 219, 3), (37, .ireturn, 1)]
set_option maxRecDepth 100000 in
theorem dec_X11_byRule_0 : dcs cX11_byRule DL_X11_byRule_0 = true := by decide +kernel
theorem lb_X11_byRule : lkB yX11_byRule cX11_byRule 3 ((some .int)) 2 := ⟨q_834, q_1, ⟨by decide, by decide⟩, by decide +kernel⟩
theorem lv_X11_byRule : lkV yX11_byRule := ⟨q_832, q_833⟩
def F_X11_byRule_16  (σ : hSt) : Option (Int32 × hSt) :=
some (((-1 : Int32), σ))
def F_X11_byRule (a0 : Nat) (l1 : Int32) (l2 : Int32) (σ : hSt) : Option (Int32 × hSt) :=
(F_X11_isNews a0 l1 σ).bind fun v2 =>
if v2 = 0 then (
F_X11_byRule_16  σ) else (
(F_X11_isHill a0 l2 σ).bind fun v4 =>
if v4 = 0 then (
F_X11_byRule_16  σ) else (
(F_X11_pairOf l2 l1 σ).bind fun v6 =>
cR (σ.2.2 a0 1) (okr kC NC 7) fun z7 =>
cC (F_X11_daysTill a0 ((1 : Int32) <<< (v6 &&& 31)) (σ.1 z7 8) (-1 : Int32) σ) fun v9 σ10 =>
some ((v9, σ10))))
section
variable {p : Program} {l : Launch} {e : Env} {s : State} {m : MethodId} {args : Array Value} {below : List Frame} {meth : Method} {c : Code} {D : va_G} {ay : Nat → ClassId} {ad : Nat → Nat}
set_option maxRecDepth 100000 in
set_option maxHeartbeats 4000000 in
theorem B_X11_byRule_16 {H : Heap} {locs : List Loc} {ls : Array Slot} {r0 : Int32} {σ0 : hSt}  (σ : hSt) (G : Gx p m c cX11_byRule 3 s args RX11 D ay NC ad (aN NC ad)) (hm : meth.sig.returnType = (some .int) ∧ meth.locks = false)  (hf : F_X11_byRule_16  σ = some (r0, σ0))  (w : Wd D ay kC NC ad (aN NC ad) s σ H locs) (hl : lv_has ls 3 []) : W p l e (rmK 7 172) s m args below meth c H locs 0 0 (MQ below (cI D ay kC NC ad r0 σ0) args s 0 0 (aN NC ad)) (F0 m 16 ls []) := by
  unfold F_X11_byRule_16 at hf
  refine lv_iconst (v := (-1 : Int32)) G.hx G.hb (dcs_get dec_X11_byRule_0 8 rfl) (by decide) ?_
  have e9 := Option.some.inj hf
  exact r_iret G w hm (congrArg Prod.fst e9) (congrArg Prod.snd e9) (dcs_get dec_X11_byRule_0 9 rfl)
set_option maxRecDepth 100000 in
set_option maxHeartbeats 4000000 in
theorem B_X11_byRule_0 {H : Heap} {locs : List Loc} {ls : Array Slot} {r0 : Int32} {σ0 : hSt} (a0 : Nat) (l1 : Int32) (l2 : Int32) (σ : hSt) (G : Gx p m c cX11_byRule 3 s args RX11 D ay NC ad (aN NC ad)) (hm : meth.sig.returnType = (some .int) ∧ meth.locks = false) (ok_a0 : okr kC NC 11 a0 = true) (hf : F_X11_byRule a0 l1 l2 σ = some (r0, σ0))  (w : Wd D ay kC NC ad (aN NC ad) s σ H locs) (hl : lv_has ls 3 [(0, .ref (ad a0)), (1, .int l1), (2, .int l2)]) : W p l e (rmK 7 172) s m args below meth c H locs 0 0 (MQ below (cI D ay kC NC ad r0 σ0) args s 0 0 (aN NC ad)) (F0 m 0 ls []) := by
  have k_a0 := okr_in ok_a0
  unfold F_X11_byRule at hf
  refine lv_aload_n G.hx G.hb (dcs_get dec_X11_byRule_0 0 rfl) rfl (lv_at hl 0 rfl) ?_
  refine lv_iload_n G.hx G.hb (dcs_get dec_X11_byRule_0 1 rfl) rfl (lv_at hl 1 rfl) ?_
  obtain ⟨v2, h1, hf⟩ := cB_some hf
  refine a_i (k_V (As := [.int l1]) (rest := []) cls11 lb_X11_isNews lv_X11_isNews q_720 (C_X11_isNews G.2.2.1 a0 l1 σ h1 ok_a0) ⟨(Nat.le_of_ble_eq_true rfl), (Nat.le_of_ble_eq_true rfl)⟩ G w k_a0.1 k_a0.2 rfl rfl hl.1 (Nat.le_of_ble_eq_true rfl) (dcs_get dec_X11_byRule_0 2 rfl) ⟨Nat.le_refl _, Nat.le_refl _⟩) G w (fun H locs w => ?_)
  refine lv_if_eq (tgt := 16) G.hx G.hb (dcs_get dec_X11_byRule_0 3 rfl) (by decide) (fun hc => ?_) (fun hc => ?_)
  · rw [if_pos hc] at hf
    exact B_X11_byRule_16  σ G hm  hf  w (lv_sub hl [] rfl)
  · rw [if_neg hc] at hf
    refine lv_aload_n G.hx G.hb (dcs_get dec_X11_byRule_0 4 rfl) rfl (lv_at hl 0 rfl) ?_
    refine lv_iload_n G.hx G.hb (dcs_get dec_X11_byRule_0 5 rfl) rfl (lv_at hl 2 rfl) ?_
    obtain ⟨v4, h3, hf⟩ := cB_some hf
    refine a_i (k_V (As := [.int l2]) (rest := []) cls11 lb_X11_isHill lv_X11_isHill q_686 (C_X11_isHill G.2.2.1 a0 l2 σ h3 ok_a0) ⟨(Nat.le_of_ble_eq_true rfl), (Nat.le_of_ble_eq_true rfl)⟩ G w k_a0.1 k_a0.2 rfl rfl hl.1 (Nat.le_of_ble_eq_true rfl) (dcs_get dec_X11_byRule_0 6 rfl) ⟨Nat.le_refl _, Nat.le_refl _⟩) G w (fun H locs w => ?_)
    refine lv_if_ne (tgt := 18) G.hx G.hb (dcs_get dec_X11_byRule_0 7 rfl) (by decide) (fun hc => ?_) (fun hc => ?_)
    · rw [if_neg hc] at hf
      refine lv_aload_n G.hx G.hb (dcs_get dec_X11_byRule_0 10 rfl) rfl (lv_at hl 0 rfl) ?_
      refine lv_iconst (v := (1 : Int32)) G.hx G.hb (dcs_get dec_X11_byRule_0 11 rfl) (by decide) ?_
      refine lv_iload_n G.hx G.hb (dcs_get dec_X11_byRule_0 12 rfl) rfl (lv_at hl 2 rfl) ?_
      refine lv_iload_n G.hx G.hb (dcs_get dec_X11_byRule_0 13 rfl) rfl (lv_at hl 1 rfl) ?_
      obtain ⟨v6, h5, hf⟩ := cB_some hf
      refine a_i (k_S (As := [.int l2, .int l1]) (rest := [.int (1 : Int32), .ref (ad a0)]) lb_X11_pairOf q_389 q_728 (C_X11_pairOf G.2.2.1 l2 l1 σ h5 ) ⟨(Nat.le_of_ble_eq_true rfl), (Nat.le_of_ble_eq_true rfl)⟩ G w rfl rfl hl.1 (Nat.le_of_ble_eq_true rfl) (dcs_get dec_X11_byRule_0 14 rfl) ⟨Nat.le_refl _, Nat.le_refl _⟩) G w (fun H locs w => ?_)
      refine lv_ishl G.hx G.hb (dcs_get dec_X11_byRule_0 15 rfl) ?_
      refine lv_aload_n G.hx G.hb (dcs_get dec_X11_byRule_0 16 rfl) rfl (lv_at hl 0 rfl) ?_
      obtain ⟨z7, e_z7, ok_z7, hf⟩ := cR_some hf
      have k_z7 := okr_in ok_z7
      refine r_getr (k := 1) cls11 fi_11_1.1 fi_11_1.2 q_392 G w k_a0.1 k_a0.2 e_z7 (dcs_get dec_X11_byRule_0 17 rfl) ?_
      refine r_getiN (k := 8) cls7 fi_7_8.1 fi_7_8.2 nf_120 G w k_z7.1 k_z7.2 (dcs_get dec_X11_byRule_0 18 rfl) ?_
      refine lv_iconst (v := (-1 : Int32)) G.hx G.hb (dcs_get dec_X11_byRule_0 19 rfl) (by decide) ?_
      obtain ⟨v9, σ10, h8, hf⟩ := cC_some hf
      refine a_i (k_V (As := [.int ((1 : Int32) <<< (v6 &&& 31)), .int (σ.1 z7 8), .int (-1 : Int32)]) (rest := []) cls11 lb_X11_daysTill lv_X11_daysTill q_835 (C_X11_daysTill G.2.2.1 a0 ((1 : Int32) <<< (v6 &&& 31)) (σ.1 z7 8) (-1 : Int32) σ h8 ok_a0) ⟨(Nat.le_of_ble_eq_true rfl), (Nat.le_of_ble_eq_true rfl)⟩ G w k_a0.1 k_a0.2 rfl rfl hl.1 (Nat.le_of_ble_eq_true rfl) (dcs_get dec_X11_byRule_0 20 rfl) ⟨Nat.le_refl _, Nat.le_refl _⟩) G w (fun H locs w => ?_)
      have e9 := Option.some.inj hf
      exact r_iret G w hm (congrArg Prod.fst e9) (congrArg Prod.snd e9) (dcs_get dec_X11_byRule_0 21 rfl)
    · rw [if_pos hc] at hf
      exact B_X11_byRule_16  σ G hm  hf  w (lv_sub hl [] rfl)
end
set_option maxRecDepth 100000 in
set_option maxHeartbeats 4000000 in
theorem C_X11_byRule {l : Launch} {D : va_G} {ay : Nat → ClassId} {ad : Nat → Nat} (hi : hInj NC ad) (a0 : Nat) (l1 : Int32) (l2 : Int32) (σ : hSt) {r0 : Int32} {σ0 : hSt} (hf : F_X11_byRule a0 l1 l2 σ = some (r0, σ0)) (ok_a0 : okr kC NC 11 a0 = true) : hM l D ay kC NC ad yX11_byRule cX11_byRule 3 ((some .int)) (rmK 7 172) [.ref (ad a0), .int l1, .int l2] σ (cI D ay kC NC ad r0 σ0) := by
  refine hM_in (by decide) hi (Nat.le_of_ble_eq_true rfl) ?_
  intro p e s m below meth c G hm w ls hl
  exact B_X11_byRule_0 a0 l1 l2 σ G hm ok_a0 hf w (lv_sub hl [0, 1, 2] rfl)

/-! HillDrums.agreed(IIII)I -/
def DL_X11_agreed_0 : List (Nat × Instr × Nat) := [(0, .aload_n 0, 1), (1, .iload_n 1, 1), (2, .invokevirtual 120, 3), (5, .ifCond .eq 33, 3), (8, .aload_n 0, 1), (9, .iload_n 2, 1), (10, .invokevirtual 120, 3), (13, .ifCond .eq 25, 3), (16, .iload_n 1, 1), (17, .iload_n 2, 1), (18, .if_icmp .eq 20, 3), (21, .aload_n 0, 1), (22, .iload_n 3, 1), (23, .invokevirtual 128, 3), (26, .ifCond .eq 12, 3), (29, .aload_n 0, 1), (30, .iload 4, 2), (32, .invokevirtual 128, 3), (35, .ifCond .ne 5, 3), (38, .iconst (-1), 1), (39, .ireturn, 1), (40, .iconst 1, 1), (41, .iload_n 1, 1), (42, .ishl, 1), (43, .iconst 1, 1), (44, .iload_n 2, 1), (45, .ishl, 1), (46, .ior, 1), (47, .istore 5, 2), (49, .aload_n 0, 1), (50, .iload 5, 2), (52, .bipush 6, 2), (54, .iload_n 3, 1), (55, .imul, 1), (56, .ishl, 1), (57, .iload 5, 2), (59, .bipush 6, 2), (61, .iload 4, 2), (63, .imul, 1), (64, .ishl, 1)]
set_option maxRecDepth 100000 in
theorem dec_X11_agreed_0 : dcs cX11_agreed DL_X11_agreed_0 = true := by decide +kernel
def DL_X11_agreed_1 : List (Nat × Instr × Nat) := [(65, .ior, 1), (66, .aload_n 0, 1), (67, .getfield 19, 3), (70, .getfield 185, 3), (73, .iconst (-1), 1), (74, .invokevirtual 219, 3), (77, .ireturn, 1)]
set_option maxRecDepth 100000 in
theorem dec_X11_agreed_1 : dcs cX11_agreed DL_X11_agreed_1 = true := by decide +kernel
theorem lb_X11_agreed : lkB yX11_agreed cX11_agreed 6 ((some .int)) 4 := ⟨q_843, q_1, ⟨by decide, by decide⟩, by decide +kernel⟩
theorem lv_X11_agreed : lkV yX11_agreed := ⟨q_841, q_842⟩
def F_X11_agreed_38  (σ : hSt) : Option (Int32 × hSt) :=
some (((-1 : Int32), σ))
def F_X11_agreed (a0 : Nat) (l1 : Int32) (l2 : Int32) (l3 : Int32) (l4 : Int32) (σ : hSt) : Option (Int32 × hSt) :=
(F_X11_isHill a0 l1 σ).bind fun v2 =>
if v2 = 0 then (
F_X11_agreed_38  σ) else (
(F_X11_isHill a0 l2 σ).bind fun v4 =>
if v4 = 0 then (
F_X11_agreed_38  σ) else (
if l1 = l2 then (
F_X11_agreed_38  σ) else (
(F_X11_isNews a0 l3 σ).bind fun v6 =>
if v6 = 0 then (
F_X11_agreed_38  σ) else (
(F_X11_isNews a0 l4 σ).bind fun v8 =>
if v8 = 0 then (
F_X11_agreed_38  σ) else (
cL (((1 : Int32) <<< (l1 &&& 31)) ||| ((1 : Int32) <<< (l2 &&& 31))) fun v9 =>
cR (σ.2.2 a0 1) (okr kC NC 7) fun z10 =>
cC (F_X11_daysTill a0 ((v9 <<< (((6 : Int32) * l3) &&& 31)) ||| (v9 <<< (((6 : Int32) * l4) &&& 31))) (σ.1 z10 8) (-1 : Int32) σ) fun v12 σ13 =>
some ((v12, σ13)))))))
section
variable {p : Program} {l : Launch} {e : Env} {s : State} {m : MethodId} {args : Array Value} {below : List Frame} {meth : Method} {c : Code} {D : va_G} {ay : Nat → ClassId} {ad : Nat → Nat}
set_option maxRecDepth 100000 in
set_option maxHeartbeats 4000000 in
theorem B_X11_agreed_38 {H : Heap} {locs : List Loc} {ls : Array Slot} {r0 : Int32} {σ0 : hSt}  (σ : hSt) (G : Gx p m c cX11_agreed 6 s args RX11 D ay NC ad (aN NC ad)) (hm : meth.sig.returnType = (some .int) ∧ meth.locks = false)  (hf : F_X11_agreed_38  σ = some (r0, σ0))  (w : Wd D ay kC NC ad (aN NC ad) s σ H locs) (hl : lv_has ls 6 []) : W p l e (rmK 7 172) s m args below meth c H locs 0 0 (MQ below (cI D ay kC NC ad r0 σ0) args s 0 0 (aN NC ad)) (F0 m 38 ls []) := by
  unfold F_X11_agreed_38 at hf
  refine lv_iconst (v := (-1 : Int32)) G.hx G.hb (dcs_get dec_X11_agreed_0 19 rfl) (by decide) ?_
  have e9 := Option.some.inj hf
  exact r_iret G w hm (congrArg Prod.fst e9) (congrArg Prod.snd e9) (dcs_get dec_X11_agreed_0 20 rfl)
set_option maxRecDepth 100000 in
set_option maxHeartbeats 4000000 in
theorem B_X11_agreed_0 {H : Heap} {locs : List Loc} {ls : Array Slot} {r0 : Int32} {σ0 : hSt} (a0 : Nat) (l1 : Int32) (l2 : Int32) (l3 : Int32) (l4 : Int32) (σ : hSt) (G : Gx p m c cX11_agreed 6 s args RX11 D ay NC ad (aN NC ad)) (hm : meth.sig.returnType = (some .int) ∧ meth.locks = false) (ok_a0 : okr kC NC 11 a0 = true) (hf : F_X11_agreed a0 l1 l2 l3 l4 σ = some (r0, σ0))  (w : Wd D ay kC NC ad (aN NC ad) s σ H locs) (hl : lv_has ls 6 [(0, .ref (ad a0)), (1, .int l1), (2, .int l2), (3, .int l3), (4, .int l4)]) : W p l e (rmK 7 172) s m args below meth c H locs 0 0 (MQ below (cI D ay kC NC ad r0 σ0) args s 0 0 (aN NC ad)) (F0 m 0 ls []) := by
  have k_a0 := okr_in ok_a0
  unfold F_X11_agreed at hf
  refine lv_aload_n G.hx G.hb (dcs_get dec_X11_agreed_0 0 rfl) rfl (lv_at hl 0 rfl) ?_
  refine lv_iload_n G.hx G.hb (dcs_get dec_X11_agreed_0 1 rfl) rfl (lv_at hl 1 rfl) ?_
  obtain ⟨v2, h1, hf⟩ := cB_some hf
  refine a_i (k_V (As := [.int l1]) (rest := []) cls11 lb_X11_isHill lv_X11_isHill q_686 (C_X11_isHill G.2.2.1 a0 l1 σ h1 ok_a0) ⟨(Nat.le_of_ble_eq_true rfl), (Nat.le_of_ble_eq_true rfl)⟩ G w k_a0.1 k_a0.2 rfl rfl hl.1 (Nat.le_of_ble_eq_true rfl) (dcs_get dec_X11_agreed_0 2 rfl) ⟨Nat.le_refl _, Nat.le_refl _⟩) G w (fun H locs w => ?_)
  refine lv_if_eq (tgt := 38) G.hx G.hb (dcs_get dec_X11_agreed_0 3 rfl) (by decide) (fun hc => ?_) (fun hc => ?_)
  · rw [if_pos hc] at hf
    exact B_X11_agreed_38  σ G hm  hf  w (lv_sub hl [] rfl)
  · rw [if_neg hc] at hf
    refine lv_aload_n G.hx G.hb (dcs_get dec_X11_agreed_0 4 rfl) rfl (lv_at hl 0 rfl) ?_
    refine lv_iload_n G.hx G.hb (dcs_get dec_X11_agreed_0 5 rfl) rfl (lv_at hl 2 rfl) ?_
    obtain ⟨v4, h3, hf⟩ := cB_some hf
    refine a_i (k_V (As := [.int l2]) (rest := []) cls11 lb_X11_isHill lv_X11_isHill q_686 (C_X11_isHill G.2.2.1 a0 l2 σ h3 ok_a0) ⟨(Nat.le_of_ble_eq_true rfl), (Nat.le_of_ble_eq_true rfl)⟩ G w k_a0.1 k_a0.2 rfl rfl hl.1 (Nat.le_of_ble_eq_true rfl) (dcs_get dec_X11_agreed_0 6 rfl) ⟨Nat.le_refl _, Nat.le_refl _⟩) G w (fun H locs w => ?_)
    refine lv_if_eq (tgt := 38) G.hx G.hb (dcs_get dec_X11_agreed_0 7 rfl) (by decide) (fun hc => ?_) (fun hc => ?_)
    · rw [if_pos hc] at hf
      exact B_X11_agreed_38  σ G hm  hf  w (lv_sub hl [] rfl)
    · rw [if_neg hc] at hf
      refine lv_iload_n G.hx G.hb (dcs_get dec_X11_agreed_0 8 rfl) rfl (lv_at hl 1 rfl) ?_
      refine lv_iload_n G.hx G.hb (dcs_get dec_X11_agreed_0 9 rfl) rfl (lv_at hl 2 rfl) ?_
      refine lv_icmp_eq (tgt := 38) G.hx G.hb (dcs_get dec_X11_agreed_0 10 rfl) (by decide) (fun hc => ?_) (fun hc => ?_)
      · rw [if_pos hc] at hf
        exact B_X11_agreed_38  σ G hm  hf  w (lv_sub hl [] rfl)
      · rw [if_neg hc] at hf
        refine lv_aload_n G.hx G.hb (dcs_get dec_X11_agreed_0 11 rfl) rfl (lv_at hl 0 rfl) ?_
        refine lv_iload_n G.hx G.hb (dcs_get dec_X11_agreed_0 12 rfl) rfl (lv_at hl 3 rfl) ?_
        obtain ⟨v6, h5, hf⟩ := cB_some hf
        refine a_i (k_V (As := [.int l3]) (rest := []) cls11 lb_X11_isNews lv_X11_isNews q_720 (C_X11_isNews G.2.2.1 a0 l3 σ h5 ok_a0) ⟨(Nat.le_of_ble_eq_true rfl), (Nat.le_of_ble_eq_true rfl)⟩ G w k_a0.1 k_a0.2 rfl rfl hl.1 (Nat.le_of_ble_eq_true rfl) (dcs_get dec_X11_agreed_0 13 rfl) ⟨Nat.le_refl _, Nat.le_refl _⟩) G w (fun H locs w => ?_)
        refine lv_if_eq (tgt := 38) G.hx G.hb (dcs_get dec_X11_agreed_0 14 rfl) (by decide) (fun hc => ?_) (fun hc => ?_)
        · rw [if_pos hc] at hf
          exact B_X11_agreed_38  σ G hm  hf  w (lv_sub hl [] rfl)
        · rw [if_neg hc] at hf
          refine lv_aload_n G.hx G.hb (dcs_get dec_X11_agreed_0 15 rfl) rfl (lv_at hl 0 rfl) ?_
          refine lv_iload G.hx G.hb (dcs_get dec_X11_agreed_0 16 rfl) (lv_at hl 4 rfl) ?_
          obtain ⟨v8, h7, hf⟩ := cB_some hf
          refine a_i (k_V (As := [.int l4]) (rest := []) cls11 lb_X11_isNews lv_X11_isNews q_720 (C_X11_isNews G.2.2.1 a0 l4 σ h7 ok_a0) ⟨(Nat.le_of_ble_eq_true rfl), (Nat.le_of_ble_eq_true rfl)⟩ G w k_a0.1 k_a0.2 rfl rfl hl.1 (Nat.le_of_ble_eq_true rfl) (dcs_get dec_X11_agreed_0 17 rfl) ⟨Nat.le_refl _, Nat.le_refl _⟩) G w (fun H locs w => ?_)
          refine lv_if_ne (tgt := 40) G.hx G.hb (dcs_get dec_X11_agreed_0 18 rfl) (by decide) (fun hc => ?_) (fun hc => ?_)
          · rw [if_neg hc] at hf
            refine lv_iconst (v := (1 : Int32)) G.hx G.hb (dcs_get dec_X11_agreed_0 21 rfl) (by decide) ?_
            refine lv_iload_n G.hx G.hb (dcs_get dec_X11_agreed_0 22 rfl) rfl (lv_at hl 1 rfl) ?_
            refine lv_ishl G.hx G.hb (dcs_get dec_X11_agreed_0 23 rfl) ?_
            refine lv_iconst (v := (1 : Int32)) G.hx G.hb (dcs_get dec_X11_agreed_0 24 rfl) (by decide) ?_
            refine lv_iload_n G.hx G.hb (dcs_get dec_X11_agreed_0 25 rfl) rfl (lv_at hl 2 rfl) ?_
            refine lv_ishl G.hx G.hb (dcs_get dec_X11_agreed_0 26 rfl) ?_
            refine lv_ior G.hx G.hb (dcs_get dec_X11_agreed_0 27 rfl) ?_
            obtain ⟨v9, e_v9, hf⟩ := cL_some hf
            refine r_topi e_v9 ?_
            refine lv_istore (lv' := [(5, .int v9), (0, .ref (ad a0)), (1, .int l1), (2, .int l2), (3, .int l3), (4, .int l4)]) G.hx G.hb (dcs_get dec_X11_agreed_0 28 rfl) hl (by decide) rfl (fun ls hl => ?_)
            refine lv_aload_n G.hx G.hb (dcs_get dec_X11_agreed_0 29 rfl) rfl (lv_at hl 1 rfl) ?_
            refine lv_iload G.hx G.hb (dcs_get dec_X11_agreed_0 30 rfl) (lv_at hl 0 rfl) ?_
            refine lv_bipush (v := (6 : Int32)) G.hx G.hb (dcs_get dec_X11_agreed_0 31 rfl) (by decide) ?_
            refine lv_iload_n G.hx G.hb (dcs_get dec_X11_agreed_0 32 rfl) rfl (lv_at hl 4 rfl) ?_
            refine lv_imul G.hx G.hb (dcs_get dec_X11_agreed_0 33 rfl) ?_
            refine lv_ishl G.hx G.hb (dcs_get dec_X11_agreed_0 34 rfl) ?_
            refine lv_iload G.hx G.hb (dcs_get dec_X11_agreed_0 35 rfl) (lv_at hl 0 rfl) ?_
            refine lv_bipush (v := (6 : Int32)) G.hx G.hb (dcs_get dec_X11_agreed_0 36 rfl) (by decide) ?_
            refine lv_iload G.hx G.hb (dcs_get dec_X11_agreed_0 37 rfl) (lv_at hl 5 rfl) ?_
            refine lv_imul G.hx G.hb (dcs_get dec_X11_agreed_0 38 rfl) ?_
            refine lv_ishl G.hx G.hb (dcs_get dec_X11_agreed_0 39 rfl) ?_
            refine lv_ior G.hx G.hb (dcs_get dec_X11_agreed_1 0 rfl) ?_
            refine lv_aload_n G.hx G.hb (dcs_get dec_X11_agreed_1 1 rfl) rfl (lv_at hl 1 rfl) ?_
            obtain ⟨z10, e_z10, ok_z10, hf⟩ := cR_some hf
            have k_z10 := okr_in ok_z10
            refine r_getr (k := 1) cls11 fi_11_1.1 fi_11_1.2 q_392 G w k_a0.1 k_a0.2 e_z10 (dcs_get dec_X11_agreed_1 2 rfl) ?_
            refine r_getiN (k := 8) cls7 fi_7_8.1 fi_7_8.2 nf_120 G w k_z10.1 k_z10.2 (dcs_get dec_X11_agreed_1 3 rfl) ?_
            refine lv_iconst (v := (-1 : Int32)) G.hx G.hb (dcs_get dec_X11_agreed_1 4 rfl) (by decide) ?_
            obtain ⟨v12, σ13, h11, hf⟩ := cC_some hf
            refine a_i (k_V (As := [.int ((v9 <<< (((6 : Int32) * l3) &&& 31)) ||| (v9 <<< (((6 : Int32) * l4) &&& 31))), .int (σ.1 z10 8), .int (-1 : Int32)]) (rest := []) cls11 lb_X11_daysTill lv_X11_daysTill q_835 (C_X11_daysTill G.2.2.1 a0 ((v9 <<< (((6 : Int32) * l3) &&& 31)) ||| (v9 <<< (((6 : Int32) * l4) &&& 31))) (σ.1 z10 8) (-1 : Int32) σ h11 ok_a0) ⟨(Nat.le_of_ble_eq_true rfl), (Nat.le_of_ble_eq_true rfl)⟩ G w k_a0.1 k_a0.2 rfl rfl hl.1 (Nat.le_of_ble_eq_true rfl) (dcs_get dec_X11_agreed_1 5 rfl) ⟨Nat.le_refl _, Nat.le_refl _⟩) G w (fun H locs w => ?_)
            have e9 := Option.some.inj hf
            exact r_iret G w hm (congrArg Prod.fst e9) (congrArg Prod.snd e9) (dcs_get dec_X11_agreed_1 6 rfl)
          · rw [if_pos hc] at hf
            exact B_X11_agreed_38  σ G hm  hf  w (lv_sub hl [] rfl)
end
set_option maxRecDepth 100000 in
set_option maxHeartbeats 4000000 in
theorem C_X11_agreed {l : Launch} {D : va_G} {ay : Nat → ClassId} {ad : Nat → Nat} (hi : hInj NC ad) (a0 : Nat) (l1 : Int32) (l2 : Int32) (l3 : Int32) (l4 : Int32) (σ : hSt) {r0 : Int32} {σ0 : hSt} (hf : F_X11_agreed a0 l1 l2 l3 l4 σ = some (r0, σ0)) (ok_a0 : okr kC NC 11 a0 = true) : hM l D ay kC NC ad yX11_agreed cX11_agreed 6 ((some .int)) (rmK 7 172) [.ref (ad a0), .int l1, .int l2, .int l3, .int l4] σ (cI D ay kC NC ad r0 σ0) := by
  refine hM_in (by decide) hi (Nat.le_of_ble_eq_true rfl) ?_
  intro p e s m below meth c G hm w ls hl
  exact B_X11_agreed_0 a0 l1 l2 l3 l4 σ G hm ok_a0 hf w (lv_sub hl [0, 1, 2, 3, 4] rfl)

/-! HillDrums.talk(I)I -/
def DL_X11_talk_0 : List (Nat × Instr × Nat) := [(0, .iload_n 1, 1), (1, .iconst 1, 1), (2, .if_icmp .lt 10, 3), (5, .iload_n 1, 1), (6, .sipush 200, 3), (9, .if_icmp .le 5, 3), (12, .iconst (-1), 1), (13, .ireturn, 1), (14, .aload_n 0, 1), (15, .getfield 46, 3), (18, .aload_n 0, 1), (19, .getfield 42, 3), (22, .invokevirtual 213, 3), (25, .iconst 0, 1), (26, .istore_n 2, 1), (27, .iload_n 2, 1), (28, .iload_n 1, 1), (29, .if_icmp .ge 28, 3), (32, .aload_n 0, 1), (33, .getfield 46, 3), (36, .aload_n 0, 1), (37, .getfield 19, 3), (40, .aload_n 0, 1), (41, .getfield 19, 3), (44, .getfield 185, 3), (47, .iconst (-1), 1), (48, .invokevirtual 202, 3), (51, .iinc 2 1, 3), (54, .goto (-27), 3), (57, .aload_n 0, 1), (58, .getfield 46, 3), (61, .getfield 223, 3), (64, .aload_n 0, 1), (65, .getfield 42, 3), (68, .getfield 223, 3), (71, .isub, 1), (72, .ireturn, 1)]
set_option maxRecDepth 100000 in
theorem dec_X11_talk_0 : dcs cX11_talk DL_X11_talk_0 = true := by decide +kernel
theorem lb_X11_talk : lkB yX11_talk cX11_talk 3 ((some .int)) 1 := ⟨q_847, q_1, ⟨by decide, by decide⟩, by decide +kernel⟩
theorem lv_X11_talk : lkV yX11_talk := ⟨q_845, q_846⟩
def F_X11_talk_12  (σ : hSt) : Option (Int32 × hSt) :=
some (((-1 : Int32), σ))
def F_X11_talk_27b (a0 : Nat) (l1 : Int32) (l2 : Int32) (σ : hSt) : Option ((Int32 × hSt) ⊕ (Int32 × hSt)) :=
if l1 ≤ l2 then (
cR (σ.2.2 a0 6) (okr kC NC 10) fun z1 =>
cR (σ.2.2 a0 5) (okr kC NC 10) fun z2 =>
some (.inr (((σ.1 z1 8) - (σ.1 z2 8), σ)))) else (
cR (σ.2.2 a0 6) (okr kC NC 10) fun z3 =>
cR (σ.2.2 a0 1) (okr kC NC 7) fun z4 =>
cR (σ.2.2 a0 1) (okr kC NC 7) fun z5 =>
(F_X10_passDay z3 z4 (σ.1 z5 8) (-1 : Int32) σ).bind fun σ7 =>
cL (l2 + (1 : Int32)) fun v8 =>
some (.inl (v8, σ7)))
def S_X11_talk_27 (a0 : Nat) (l1 : Int32) (v : Int32 × hSt) : Option ((Int32 × hSt) ⊕ (Int32 × hSt)) := F_X11_talk_27b a0 l1 v.1 v.2
def F_X11_talk_27 (a0 : Nat) (l1 : Int32) (l2 : Int32) (σ : hSt) : Option (Int32 × hSt) := lp (S_X11_talk_27 a0 l1) fuel (l2, σ)
def F_X11_talk (a0 : Nat) (l1 : Int32) (σ : hSt) : Option (Int32 × hSt) :=
if l1 < (1 : Int32) then (
F_X11_talk_12  σ) else (
if l1 ≤ (200 : Int32) then (
cR (σ.2.2 a0 6) (okr kC NC 10) fun z9 =>
cR (σ.2.2 a0 5) (okr kC NC 10) fun z10 =>
(F_X10_copy z9 z10 σ).bind fun σ12 =>
F_X11_talk_27 a0 l1 (0 : Int32) σ12) else (
F_X11_talk_12  σ))
section
variable {p : Program} {l : Launch} {e : Env} {s : State} {m : MethodId} {args : Array Value} {below : List Frame} {meth : Method} {c : Code} {D : va_G} {ay : Nat → ClassId} {ad : Nat → Nat}
set_option maxRecDepth 100000 in
set_option maxHeartbeats 4000000 in
theorem B_X11_talk_12 {H : Heap} {locs : List Loc} {ls : Array Slot} {r0 : Int32} {σ0 : hSt}  (σ : hSt) (G : Gx p m c cX11_talk 3 s args RX11 D ay NC ad (aN NC ad)) (hm : meth.sig.returnType = (some .int) ∧ meth.locks = false)  (hf : F_X11_talk_12  σ = some (r0, σ0))  (w : Wd D ay kC NC ad (aN NC ad) s σ H locs) (hl : lv_has ls 3 []) : W p l e (rmK 6 148) s m args below meth c H locs 0 0 (MQ below (cI D ay kC NC ad r0 σ0) args s 0 0 (aN NC ad)) (F0 m 12 ls []) := by
  unfold F_X11_talk_12 at hf
  refine lv_iconst (v := (-1 : Int32)) G.hx G.hb (dcs_get dec_X11_talk_0 6 rfl) (by decide) ?_
  have e9 := Option.some.inj hf
  exact r_iret G w hm (congrArg Prod.fst e9) (congrArg Prod.snd e9) (dcs_get dec_X11_talk_0 7 rfl)
set_option maxRecDepth 100000 in
set_option maxHeartbeats 4000000 in
theorem B_X11_talk_27b {H : Heap} {locs : List Loc} {ls : Array Slot} {r0 : Int32} {σ0 : hSt} {o : (Int32 × hSt) ⊕ (Int32 × hSt)} (a0 : Nat) (l1 : Int32) (l2 : Int32) (σ : hSt) (G : Gx p m c cX11_talk 3 s args RX11 D ay NC ad (aN NC ad)) (hm : meth.sig.returnType = (some .int) ∧ meth.locks = false) (ok_a0 : okr kC NC 11 a0 = true) (hf : F_X11_talk_27b a0 l1 l2 σ = some o) (hb0 : ∀ (v : Int32 × hSt), o = .inl v → ∀ (H : Heap) (locs : List Loc) (ls : Array Slot), Wd D ay kC NC ad (aN NC ad) s v.2 H locs → lv_has ls 3 [(0, .ref (ad a0)), (1, .int l1), (2, .int v.1)] → W p l e (rmK 6 148) s m args below meth c H locs 0 0 (MQ below (cI D ay kC NC ad r0 σ0) args s 0 0 (aN NC ad)) (F0 m 27 ls [])) (hr : ∀ x, o = .inr (x) → x = (r0, σ0)) (w : Wd D ay kC NC ad (aN NC ad) s σ H locs) (hl : lv_has ls 3 [(0, .ref (ad a0)), (1, .int l1), (2, .int l2)]) : W p l e (rmK 6 148) s m args below meth c H locs 0 0 (MQ below (cI D ay kC NC ad r0 σ0) args s 0 0 (aN NC ad)) (F0 m 27 ls []) := by
  have k_a0 := okr_in ok_a0
  unfold F_X11_talk_27b at hf
  refine lv_iload_n G.hx G.hb (dcs_get dec_X11_talk_0 15 rfl) rfl (lv_at hl 2 rfl) ?_
  refine lv_iload_n G.hx G.hb (dcs_get dec_X11_talk_0 16 rfl) rfl (lv_at hl 1 rfl) ?_
  refine lv_icmp_ge (tgt := 57) G.hx G.hb (dcs_get dec_X11_talk_0 17 rfl) (by decide) (fun hc => ?_) (fun hc => ?_)
  · rw [if_pos hc] at hf
    refine lv_aload_n G.hx G.hb (dcs_get dec_X11_talk_0 29 rfl) rfl (lv_at hl 0 rfl) ?_
    obtain ⟨z1, e_z1, ok_z1, hf⟩ := cR_some hf
    have k_z1 := okr_in ok_z1
    refine r_getr (k := 6) cls11 fi_11_6.1 fi_11_6.2 q_397 G w k_a0.1 k_a0.2 e_z1 (dcs_get dec_X11_talk_0 30 rfl) ?_
    refine r_getiN (k := 8) cls10 fi_10_8.1 fi_10_8.2 nf_249 G w k_z1.1 k_z1.2 (dcs_get dec_X11_talk_0 31 rfl) ?_
    refine lv_aload_n G.hx G.hb (dcs_get dec_X11_talk_0 32 rfl) rfl (lv_at hl 0 rfl) ?_
    obtain ⟨z2, e_z2, ok_z2, hf⟩ := cR_some hf
    have k_z2 := okr_in ok_z2
    refine r_getr (k := 5) cls11 fi_11_5.1 fi_11_5.2 q_396 G w k_a0.1 k_a0.2 e_z2 (dcs_get dec_X11_talk_0 33 rfl) ?_
    refine r_getiN (k := 8) cls10 fi_10_8.1 fi_10_8.2 nf_249 G w k_z2.1 k_z2.2 (dcs_get dec_X11_talk_0 34 rfl) ?_
    refine lv_isub G.hx G.hb (dcs_get dec_X11_talk_0 35 rfl) ?_
    have e9 := hr _ (Option.some.inj hf).symm
    exact r_iret G w hm (congrArg Prod.fst e9) (congrArg Prod.snd e9) (dcs_get dec_X11_talk_0 36 rfl)
  · rw [if_neg hc] at hf
    refine lv_aload_n G.hx G.hb (dcs_get dec_X11_talk_0 18 rfl) rfl (lv_at hl 0 rfl) ?_
    obtain ⟨z3, e_z3, ok_z3, hf⟩ := cR_some hf
    have k_z3 := okr_in ok_z3
    refine r_getr (k := 6) cls11 fi_11_6.1 fi_11_6.2 q_397 G w k_a0.1 k_a0.2 e_z3 (dcs_get dec_X11_talk_0 19 rfl) ?_
    refine lv_aload_n G.hx G.hb (dcs_get dec_X11_talk_0 20 rfl) rfl (lv_at hl 0 rfl) ?_
    obtain ⟨z4, e_z4, ok_z4, hf⟩ := cR_some hf
    have k_z4 := okr_in ok_z4
    refine r_getr (k := 1) cls11 fi_11_1.1 fi_11_1.2 q_392 G w k_a0.1 k_a0.2 e_z4 (dcs_get dec_X11_talk_0 21 rfl) ?_
    refine lv_aload_n G.hx G.hb (dcs_get dec_X11_talk_0 22 rfl) rfl (lv_at hl 0 rfl) ?_
    obtain ⟨z5, e_z5, ok_z5, hf⟩ := cR_some hf
    have k_z5 := okr_in ok_z5
    refine r_getr (k := 1) cls11 fi_11_1.1 fi_11_1.2 q_392 G w k_a0.1 k_a0.2 e_z5 (dcs_get dec_X11_talk_0 23 rfl) ?_
    refine r_getiN (k := 8) cls7 fi_7_8.1 fi_7_8.2 nf_120 G w k_z5.1 k_z5.2 (dcs_get dec_X11_talk_0 24 rfl) ?_
    refine lv_iconst (v := (-1 : Int32)) G.hx G.hb (dcs_get dec_X11_talk_0 25 rfl) (by decide) ?_
    obtain ⟨σ7, h6, hf⟩ := cB_some hf
    refine a_v (k_VN (As := [.ref (ad z4), .int (σ.1 z5 8), .int (-1 : Int32)]) (rest := []) cls10 lb_X10_passDay lv_X10_passDay nm_808 (C_X10_passDay G.2.2.1 z3 z4 (σ.1 z5 8) (-1 : Int32) σ h6 ok_z3 ok_z4) ⟨(Nat.le_of_ble_eq_true rfl), (Nat.le_of_ble_eq_true rfl)⟩ G w k_z3.1 k_z3.2 rfl rfl hl.1 (Nat.le_of_ble_eq_true rfl) (dcs_get dec_X11_talk_0 26 rfl) ⟨Nat.le_refl _, Nat.le_refl _⟩) G w (fun H locs w => ?_)
    obtain ⟨v8, e_v8, hf⟩ := cL_some hf
    refine lv_iinc (v := v8) (lv' := [(2, .int v8), (0, .ref (ad a0)), (1, .int l1)]) G.hx G.hb (dcs_get dec_X11_talk_0 27 rfl) hl (k := 2) rfl (by rw [e_v8]; rfl) (by decide) rfl (fun ls hl => ?_)
    refine lv_goto (tgt := 27) G.hx G.hb (dcs_get dec_X11_talk_0 28 rfl) (by decide) ?_
    exact hb0 _ (Option.some.inj hf).symm _ _ _ w (lv_sub hl [1, 2, 0] rfl)
set_option maxRecDepth 100000 in
set_option maxHeartbeats 4000000 in
theorem H_X11_talk_27 {r0 : Int32} {σ0 : hSt} (a0 : Nat) (l1 : Int32) (G : Gx p m c cX11_talk 3 s args RX11 D ay NC ad (aN NC ad)) (hm : meth.sig.returnType = (some .int) ∧ meth.locks = false) (ok_a0 : okr kC NC 11 a0 = true)  : ∀ (k : Nat) (v : Int32 × hSt), lp (S_X11_talk_27 a0 l1) k v = some (r0, σ0) → ∀ (H : Heap) (locs : List Loc) (ls : Array Slot), Wd D ay kC NC ad (aN NC ad) s v.2 H locs → lv_has ls 3 [(0, .ref (ad a0)), (1, .int l1), (2, .int v.1)] → W p l e (rmK 6 148) s m args below meth c H locs 0 0 (MQ below (cI D ay kC NC ad r0 σ0) args s 0 0 (aN NC ad)) (F0 m 27 ls []) := by
  intro k
  induction k with
  | zero => intro v hf; cases hf
  | succ k ih =>
    intro v hf H locs ls w hl
    obtain ⟨o1, h1, h2, h3⟩ := lp_some hf
    exact B_X11_talk_27b a0 l1 v.1 v.2 G hm ok_a0 h1  (fun v' e => ih v' (h2 v' e)) (fun x e => h3 x e) w hl
set_option maxRecDepth 100000 in
set_option maxHeartbeats 4000000 in
theorem B_X11_talk_27 {H : Heap} {locs : List Loc} {ls : Array Slot} {r0 : Int32} {σ0 : hSt} (a0 : Nat) (l1 : Int32) (l2 : Int32) (σ : hSt) (G : Gx p m c cX11_talk 3 s args RX11 D ay NC ad (aN NC ad)) (hm : meth.sig.returnType = (some .int) ∧ meth.locks = false) (ok_a0 : okr kC NC 11 a0 = true) (hf : F_X11_talk_27 a0 l1 l2 σ = some (r0, σ0))  (w : Wd D ay kC NC ad (aN NC ad) s σ H locs) (hl : lv_has ls 3 [(0, .ref (ad a0)), (1, .int l1), (2, .int l2)]) : W p l e (rmK 6 148) s m args below meth c H locs 0 0 (MQ below (cI D ay kC NC ad r0 σ0) args s 0 0 (aN NC ad)) (F0 m 27 ls []) := by
  unfold F_X11_talk_27 at hf
  exact H_X11_talk_27 a0 l1  G hm ok_a0  fuel (l2, σ) hf _ _ _ w hl
set_option maxRecDepth 100000 in
set_option maxHeartbeats 4000000 in
theorem B_X11_talk_0 {H : Heap} {locs : List Loc} {ls : Array Slot} {r0 : Int32} {σ0 : hSt} (a0 : Nat) (l1 : Int32) (σ : hSt) (G : Gx p m c cX11_talk 3 s args RX11 D ay NC ad (aN NC ad)) (hm : meth.sig.returnType = (some .int) ∧ meth.locks = false) (ok_a0 : okr kC NC 11 a0 = true) (hf : F_X11_talk a0 l1 σ = some (r0, σ0))  (w : Wd D ay kC NC ad (aN NC ad) s σ H locs) (hl : lv_has ls 3 [(0, .ref (ad a0)), (1, .int l1)]) : W p l e (rmK 6 148) s m args below meth c H locs 0 0 (MQ below (cI D ay kC NC ad r0 σ0) args s 0 0 (aN NC ad)) (F0 m 0 ls []) := by
  have k_a0 := okr_in ok_a0
  unfold F_X11_talk at hf
  refine lv_iload_n G.hx G.hb (dcs_get dec_X11_talk_0 0 rfl) rfl (lv_at hl 1 rfl) ?_
  refine lv_iconst (v := (1 : Int32)) G.hx G.hb (dcs_get dec_X11_talk_0 1 rfl) (by decide) ?_
  refine lv_icmp_lt (tgt := 12) G.hx G.hb (dcs_get dec_X11_talk_0 2 rfl) (by decide) (fun hc => ?_) (fun hc => ?_)
  · rw [if_pos hc] at hf
    exact B_X11_talk_12  σ G hm  hf  w (lv_sub hl [] rfl)
  · rw [if_neg hc] at hf
    refine lv_iload_n G.hx G.hb (dcs_get dec_X11_talk_0 3 rfl) rfl (lv_at hl 1 rfl) ?_
    refine lv_sipush (v := (200 : Int32)) G.hx G.hb (dcs_get dec_X11_talk_0 4 rfl) (by decide) ?_
    refine lv_icmp_le (tgt := 14) G.hx G.hb (dcs_get dec_X11_talk_0 5 rfl) (by decide) (fun hc => ?_) (fun hc => ?_)
    · rw [if_pos hc] at hf
      refine lv_aload_n G.hx G.hb (dcs_get dec_X11_talk_0 8 rfl) rfl (lv_at hl 0 rfl) ?_
      obtain ⟨z9, e_z9, ok_z9, hf⟩ := cR_some hf
      have k_z9 := okr_in ok_z9
      refine r_getr (k := 6) cls11 fi_11_6.1 fi_11_6.2 q_397 G w k_a0.1 k_a0.2 e_z9 (dcs_get dec_X11_talk_0 9 rfl) ?_
      refine lv_aload_n G.hx G.hb (dcs_get dec_X11_talk_0 10 rfl) rfl (lv_at hl 0 rfl) ?_
      obtain ⟨z10, e_z10, ok_z10, hf⟩ := cR_some hf
      have k_z10 := okr_in ok_z10
      refine r_getr (k := 5) cls11 fi_11_5.1 fi_11_5.2 q_396 G w k_a0.1 k_a0.2 e_z10 (dcs_get dec_X11_talk_0 11 rfl) ?_
      obtain ⟨σ12, h11, hf⟩ := cB_some hf
      refine a_v (k_VN (As := [.ref (ad z10)]) (rest := []) cls10 lb_X10_copy lv_X10_copy nm_839 (C_X10_copy G.2.2.1 z9 z10 σ h11 ok_z9 ok_z10) ⟨(Nat.le_of_ble_eq_true rfl), (Nat.le_of_ble_eq_true rfl)⟩ G w k_z9.1 k_z9.2 rfl rfl hl.1 (Nat.le_of_ble_eq_true rfl) (dcs_get dec_X11_talk_0 12 rfl) ⟨Nat.le_refl _, Nat.le_refl _⟩) G w (fun H locs w => ?_)
      refine lv_iconst (v := (0 : Int32)) G.hx G.hb (dcs_get dec_X11_talk_0 13 rfl) (by decide) ?_
      refine lv_istore_n (lv' := [(2, .int (0 : Int32)), (0, .ref (ad a0)), (1, .int l1)]) G.hx G.hb (dcs_get dec_X11_talk_0 14 rfl) rfl hl (by decide) rfl (fun ls hl => ?_)
      exact B_X11_talk_27 a0 l1 (0 : Int32) σ12 G hm ok_a0 hf  w (lv_sub hl [1, 2, 0] rfl)
    · rw [if_neg hc] at hf
      exact B_X11_talk_12  σ G hm  hf  w (lv_sub hl [] rfl)
end
set_option maxRecDepth 100000 in
set_option maxHeartbeats 4000000 in
theorem C_X11_talk {l : Launch} {D : va_G} {ay : Nat → ClassId} {ad : Nat → Nat} (hi : hInj NC ad) (a0 : Nat) (l1 : Int32) (σ : hSt) {r0 : Int32} {σ0 : hSt} (hf : F_X11_talk a0 l1 σ = some (r0, σ0)) (ok_a0 : okr kC NC 11 a0 = true) : hM l D ay kC NC ad yX11_talk cX11_talk 3 ((some .int)) (rmK 6 148) [.ref (ad a0), .int l1] σ (cI D ay kC NC ad r0 σ0) := by
  refine hM_in (by decide) hi (Nat.le_of_ble_eq_true rfl) ?_
  intro p e s m below meth c G hm w ls hl
  exact B_X11_talk_0 a0 l1 σ G hm ok_a0 hf w (lv_sub hl [0, 1] rfl)

/-! HillDrums.isSooner(II)Z -/
def DL_X11_isSooner_0 : List (Nat × Instr × Nat) := [(0, .iload_n 0, 1), (1, .bipush (-2), 2), (3, .if_icmp .eq 18, 3), (6, .iload_n 1, 1), (7, .bipush (-2), 2), (9, .if_icmp .eq 8, 3), (12, .iload_n 0, 1), (13, .iload_n 1, 1), (14, .if_icmp .ge 7, 3), (17, .iconst 1, 1), (18, .goto 4, 3), (21, .iconst 0, 1), (22, .ireturn, 1)]
set_option maxRecDepth 100000 in
theorem dec_X11_isSooner_0 : dcs cX11_isSooner DL_X11_isSooner_0 = true := by decide +kernel
theorem lb_X11_isSooner : lkB yX11_isSooner cX11_isSooner 2 ((some .boolean)) 2 := ⟨q_858, q_1, ⟨by decide, by decide⟩, by decide +kernel⟩
def F_X11_isSooner_22 (s0 : Int32) (σ : hSt) : Option (Int32) :=
cG (isB s0) <|
some (s0)
def F_X11_isSooner_17  (σ : hSt) : Option (Int32) :=
F_X11_isSooner_22 (1 : Int32) σ
def F_X11_isSooner_21  (σ : hSt) : Option (Int32) :=
F_X11_isSooner_22 (0 : Int32) σ
def F_X11_isSooner (l0 : Int32) (l1 : Int32) (σ : hSt) : Option (Int32) :=
if l0 = (-2 : Int32) then (
F_X11_isSooner_21  σ) else (
if l1 = (-2 : Int32) then (
F_X11_isSooner_17  σ) else (
if l1 ≤ l0 then (
F_X11_isSooner_21  σ) else (
F_X11_isSooner_17  σ)))
section
variable {p : Program} {l : Launch} {e : Env} {s : State} {m : MethodId} {args : Array Value} {below : List Frame} {meth : Method} {c : Code} {D : va_G} {ay : Nat → ClassId} {ad : Nat → Nat}
set_option maxRecDepth 100000 in
set_option maxHeartbeats 4000000 in
theorem B_X11_isSooner_22 {H : Heap} {locs : List Loc} {ls : Array Slot} {r0 : Int32} (s0 : Int32) (σ : hSt) (G : Gx p m c cX11_isSooner 2 s args RX11 D ay NC ad (aN NC ad)) (hm : meth.sig.returnType = (some .boolean) ∧ meth.locks = false)  (hf : F_X11_isSooner_22 s0 σ = some r0)  (w : Wd D ay kC NC ad (aN NC ad) s σ H locs) (hl : lv_has ls 2 []) : W p l e (rmK 0 0) s m args below meth c H locs 0 0 (MQ below (cI D ay kC NC ad r0 σ) args s 0 0 (aN NC ad)) (F0 m 22 ls [.int s0]) := by
  unfold F_X11_isSooner_22 at hf
  obtain ⟨h1, hf⟩ := cG_some hf
  have e9 := Option.some.inj hf
  exact r_zret (isB_nar h1) G w hm e9 rfl (dcs_get dec_X11_isSooner_0 12 rfl)
set_option maxRecDepth 100000 in
set_option maxHeartbeats 4000000 in
theorem B_X11_isSooner_17 {H : Heap} {locs : List Loc} {ls : Array Slot} {r0 : Int32}  (σ : hSt) (G : Gx p m c cX11_isSooner 2 s args RX11 D ay NC ad (aN NC ad)) (hm : meth.sig.returnType = (some .boolean) ∧ meth.locks = false)  (hf : F_X11_isSooner_17  σ = some r0)  (w : Wd D ay kC NC ad (aN NC ad) s σ H locs) (hl : lv_has ls 2 []) : W p l e (rmK 0 0) s m args below meth c H locs 0 0 (MQ below (cI D ay kC NC ad r0 σ) args s 0 0 (aN NC ad)) (F0 m 17 ls []) := by
  unfold F_X11_isSooner_17 at hf
  refine lv_iconst (v := (1 : Int32)) G.hx G.hb (dcs_get dec_X11_isSooner_0 9 rfl) (by decide) ?_
  refine lv_goto (tgt := 22) G.hx G.hb (dcs_get dec_X11_isSooner_0 10 rfl) (by decide) ?_
  exact B_X11_isSooner_22 (1 : Int32) σ G hm  hf  w (lv_sub hl [] rfl)
set_option maxRecDepth 100000 in
set_option maxHeartbeats 4000000 in
theorem B_X11_isSooner_21 {H : Heap} {locs : List Loc} {ls : Array Slot} {r0 : Int32}  (σ : hSt) (G : Gx p m c cX11_isSooner 2 s args RX11 D ay NC ad (aN NC ad)) (hm : meth.sig.returnType = (some .boolean) ∧ meth.locks = false)  (hf : F_X11_isSooner_21  σ = some r0)  (w : Wd D ay kC NC ad (aN NC ad) s σ H locs) (hl : lv_has ls 2 []) : W p l e (rmK 0 0) s m args below meth c H locs 0 0 (MQ below (cI D ay kC NC ad r0 σ) args s 0 0 (aN NC ad)) (F0 m 21 ls []) := by
  unfold F_X11_isSooner_21 at hf
  refine lv_iconst (v := (0 : Int32)) G.hx G.hb (dcs_get dec_X11_isSooner_0 11 rfl) (by decide) ?_
  exact B_X11_isSooner_22 (0 : Int32) σ G hm  hf  w (lv_sub hl [] rfl)
set_option maxRecDepth 100000 in
set_option maxHeartbeats 4000000 in
theorem B_X11_isSooner_0 {H : Heap} {locs : List Loc} {ls : Array Slot} {r0 : Int32} (l0 : Int32) (l1 : Int32) (σ : hSt) (G : Gx p m c cX11_isSooner 2 s args RX11 D ay NC ad (aN NC ad)) (hm : meth.sig.returnType = (some .boolean) ∧ meth.locks = false)  (hf : F_X11_isSooner l0 l1 σ = some r0)  (w : Wd D ay kC NC ad (aN NC ad) s σ H locs) (hl : lv_has ls 2 [(0, .int l0), (1, .int l1)]) : W p l e (rmK 0 0) s m args below meth c H locs 0 0 (MQ below (cI D ay kC NC ad r0 σ) args s 0 0 (aN NC ad)) (F0 m 0 ls []) := by
  unfold F_X11_isSooner at hf
  refine lv_iload_n G.hx G.hb (dcs_get dec_X11_isSooner_0 0 rfl) rfl (lv_at hl 0 rfl) ?_
  refine lv_bipush (v := (-2 : Int32)) G.hx G.hb (dcs_get dec_X11_isSooner_0 1 rfl) (by decide) ?_
  refine lv_icmp_eq (tgt := 21) G.hx G.hb (dcs_get dec_X11_isSooner_0 2 rfl) (by decide) (fun hc => ?_) (fun hc => ?_)
  · rw [if_pos hc] at hf
    exact B_X11_isSooner_21  σ G hm  hf  w (lv_sub hl [] rfl)
  · rw [if_neg hc] at hf
    refine lv_iload_n G.hx G.hb (dcs_get dec_X11_isSooner_0 3 rfl) rfl (lv_at hl 1 rfl) ?_
    refine lv_bipush (v := (-2 : Int32)) G.hx G.hb (dcs_get dec_X11_isSooner_0 4 rfl) (by decide) ?_
    refine lv_icmp_eq (tgt := 17) G.hx G.hb (dcs_get dec_X11_isSooner_0 5 rfl) (by decide) (fun hc => ?_) (fun hc => ?_)
    · rw [if_pos hc] at hf
      exact B_X11_isSooner_17  σ G hm  hf  w (lv_sub hl [] rfl)
    · rw [if_neg hc] at hf
      refine lv_iload_n G.hx G.hb (dcs_get dec_X11_isSooner_0 6 rfl) rfl (lv_at hl 0 rfl) ?_
      refine lv_iload_n G.hx G.hb (dcs_get dec_X11_isSooner_0 7 rfl) rfl (lv_at hl 1 rfl) ?_
      refine lv_icmp_ge (tgt := 21) G.hx G.hb (dcs_get dec_X11_isSooner_0 8 rfl) (by decide) (fun hc => ?_) (fun hc => ?_)
      · rw [if_pos hc] at hf
        exact B_X11_isSooner_21  σ G hm  hf  w (lv_sub hl [] rfl)
      · rw [if_neg hc] at hf
        exact B_X11_isSooner_17  σ G hm  hf  w (lv_sub hl [] rfl)
end
set_option maxRecDepth 100000 in
set_option maxHeartbeats 4000000 in
theorem C_X11_isSooner {l : Launch} {D : va_G} {ay : Nat → ClassId} {ad : Nat → Nat} (hi : hInj NC ad) (l0 : Int32) (l1 : Int32) (σ : hSt) {r0 : Int32} (hf : F_X11_isSooner l0 l1 σ = some r0)  : hM l D ay kC NC ad yX11_isSooner cX11_isSooner 2 ((some .boolean)) (rmK 0 0) [.int l0, .int l1] σ (cI D ay kC NC ad r0 σ) := by
  refine hM_in (by decide) hi (Nat.le_of_ble_eq_true rfl) ?_
  intro p e s m below meth c G hm w ls hl
  exact B_X11_isSooner_0 l0 l1 σ G hm  hf w (lv_sub hl [0, 1] rfl)

/-! HillDrums.bestOrder(II)I -/
def DL_X11_bestOrder_0 : List (Nat × Instr × Nat) := [(0, .aload_n 0, 1), (1, .iload_n 1, 1), (2, .invokevirtual 128, 3), (5, .ifCond .eq 12, 3), (8, .iload_n 2, 1), (9, .ifCond .lt 8, 3), (12, .iload_n 2, 1), (13, .iconst 1, 1), (14, .if_icmp .le 5, 3), (17, .iconst (-1), 1), (18, .ireturn, 1), (19, .bipush (-2), 2), (21, .istore_n 3, 1), (22, .bipush (-2), 2), (24, .istore 4, 2), (26, .aload_n 0, 1), (27, .getfield 19, 3), (30, .invokevirtual 226, 3), (33, .bipush 6, 2), (35, .iload_n 1, 1), (36, .imul, 1), (37, .ishl, 1), (38, .istore 5, 2), (40, .iconst 0, 1), (41, .istore 6, 2), (43, .iload 6, 2), (45, .iconst 4, 1), (46, .if_icmp .ge 37, 3), (49, .aload_n 0, 1), (50, .iload 5, 2), (52, .iload 6, 2), (54, .iconst (-1), 1), (55, .invokevirtual 219, 3), (58, .istore 7, 2), (60, .iload 7, 2), (62, .iload 4, 2), (64, .invokestatic 229, 3), (67, .ifCond .eq 10, 3), (70, .iload 6, 2), (72, .istore_n 3, 1)]
set_option maxRecDepth 100000 in
theorem dec_X11_bestOrder_0 : dcs cX11_bestOrder DL_X11_bestOrder_0 = true := by decide +kernel
def DL_X11_bestOrder_1 : List (Nat × Instr × Nat) := [(73, .iload 7, 2), (75, .istore 4, 2), (77, .iinc 6 1, 3), (80, .goto (-37), 3), (83, .iload_n 2, 1), (84, .ifCond .ne 7, 3), (87, .iload_n 3, 1), (88, .goto 5, 3), (91, .iload 4, 2), (93, .ireturn, 1)]
set_option maxRecDepth 100000 in
theorem dec_X11_bestOrder_1 : dcs cX11_bestOrder DL_X11_bestOrder_1 = true := by decide +kernel
theorem lb_X11_bestOrder : lkB yX11_bestOrder cX11_bestOrder 8 ((some .int)) 2 := ⟨q_851, q_1, ⟨by decide, by decide⟩, by decide +kernel⟩
theorem lv_X11_bestOrder : lkV yX11_bestOrder := ⟨q_849, q_850⟩
def F_X11_bestOrder_17  (σ : hSt) : Option (Int32 × hSt) :=
some (((-1 : Int32), σ))
def F_X11_bestOrder_77 (a0 : Nat) (l2 : Int32) (l3 : Int32) (l4 : Int32) (l5 : Int32) (l6 : Int32) (σ : hSt) : Option ((Int32 × Int32 × Int32 × hSt) ⊕ (Int32 × hSt)) :=
cL (l6 + (1 : Int32)) fun v1 =>
some (.inl (l3, l4, v1, σ))
def F_X11_bestOrder_93 (s0 : Int32) (σ : hSt) : Option (Int32 × hSt) :=
some ((s0, σ))
def F_X11_bestOrder_43b (a0 : Nat) (l2 : Int32) (l3 : Int32) (l4 : Int32) (l5 : Int32) (l6 : Int32) (σ : hSt) : Option ((Int32 × Int32 × Int32 × hSt) ⊕ (Int32 × hSt)) :=
if (4 : Int32) ≤ l6 then (
if l2 = 0 then (
(F_X11_bestOrder_93 l3 σ).map (fun x => .inr (x))) else (
(F_X11_bestOrder_93 l4 σ).map (fun x => .inr (x)))) else (
cC (F_X11_daysTill a0 l5 l6 (-1 : Int32) σ) fun v3 σ4 =>
(F_X11_isSooner v3 l4 σ4).bind fun v6 =>
if v6 = 0 then (
F_X11_bestOrder_77 a0 l2 l3 l4 l5 l6 σ4) else (
F_X11_bestOrder_77 a0 l2 l6 v3 l5 l6 σ4))
def S_X11_bestOrder_43 (a0 : Nat) (l2 : Int32) (l5 : Int32) (v : Int32 × Int32 × Int32 × hSt) : Option ((Int32 × Int32 × Int32 × hSt) ⊕ (Int32 × hSt)) := F_X11_bestOrder_43b a0 l2 v.1 v.2.1 l5 v.2.2.1 v.2.2.2
def F_X11_bestOrder_43 (a0 : Nat) (l2 : Int32) (l3 : Int32) (l4 : Int32) (l5 : Int32) (l6 : Int32) (σ : hSt) : Option (Int32 × hSt) := lp (S_X11_bestOrder_43 a0 l2 l5) fuel (l3, l4, l6, σ)
def F_X11_bestOrder (a0 : Nat) (l1 : Int32) (l2 : Int32) (σ : hSt) : Option (Int32 × hSt) :=
(F_X11_isNews a0 l1 σ).bind fun v8 =>
if v8 = 0 then (
F_X11_bestOrder_17  σ) else (
if l2 < 0 then (
F_X11_bestOrder_17  σ) else (
if l2 ≤ (1 : Int32) then (
cR (σ.2.2 a0 1) (okr kC NC 7) fun z9 =>
(F_X7_allHills z9 σ).bind fun v11 =>
cL (v11 <<< (((6 : Int32) * l1) &&& 31)) fun v12 =>
F_X11_bestOrder_43 a0 l2 (-2 : Int32) (-2 : Int32) v12 (0 : Int32) σ) else (
F_X11_bestOrder_17  σ)))
section
variable {p : Program} {l : Launch} {e : Env} {s : State} {m : MethodId} {args : Array Value} {below : List Frame} {meth : Method} {c : Code} {D : va_G} {ay : Nat → ClassId} {ad : Nat → Nat}
set_option maxRecDepth 100000 in
set_option maxHeartbeats 4000000 in
theorem B_X11_bestOrder_17 {H : Heap} {locs : List Loc} {ls : Array Slot} {r0 : Int32} {σ0 : hSt}  (σ : hSt) (G : Gx p m c cX11_bestOrder 8 s args RX11 D ay NC ad (aN NC ad)) (hm : meth.sig.returnType = (some .int) ∧ meth.locks = false)  (hf : F_X11_bestOrder_17  σ = some (r0, σ0))  (w : Wd D ay kC NC ad (aN NC ad) s σ H locs) (hl : lv_has ls 8 []) : W p l e (rmK 7 172) s m args below meth c H locs 0 0 (MQ below (cI D ay kC NC ad r0 σ0) args s 0 0 (aN NC ad)) (F0 m 17 ls []) := by
  unfold F_X11_bestOrder_17 at hf
  refine lv_iconst (v := (-1 : Int32)) G.hx G.hb (dcs_get dec_X11_bestOrder_0 9 rfl) (by decide) ?_
  have e9 := Option.some.inj hf
  exact r_iret G w hm (congrArg Prod.fst e9) (congrArg Prod.snd e9) (dcs_get dec_X11_bestOrder_0 10 rfl)
set_option maxRecDepth 100000 in
set_option maxHeartbeats 4000000 in
theorem B_X11_bestOrder_77 {H : Heap} {locs : List Loc} {ls : Array Slot} {r0 : Int32} {σ0 : hSt} {o : (Int32 × Int32 × Int32 × hSt) ⊕ (Int32 × hSt)} (a0 : Nat) (l2 : Int32) (l3 : Int32) (l4 : Int32) (l5 : Int32) (l6 : Int32) (σ : hSt) (G : Gx p m c cX11_bestOrder 8 s args RX11 D ay NC ad (aN NC ad)) (hm : meth.sig.returnType = (some .int) ∧ meth.locks = false) (ok_a0 : okr kC NC 11 a0 = true) (hf : F_X11_bestOrder_77 a0 l2 l3 l4 l5 l6 σ = some o) (hb0 : ∀ (v : Int32 × Int32 × Int32 × hSt), o = .inl v → ∀ (H : Heap) (locs : List Loc) (ls : Array Slot), Wd D ay kC NC ad (aN NC ad) s v.2.2.2 H locs → lv_has ls 8 [(0, .ref (ad a0)), (2, .int l2), (3, .int v.1), (4, .int v.2.1), (5, .int l5), (6, .int v.2.2.1)] → W p l e (rmK 7 172) s m args below meth c H locs 0 0 (MQ below (cI D ay kC NC ad r0 σ0) args s 0 0 (aN NC ad)) (F0 m 43 ls [])) (hr : ∀ x, o = .inr (x) → x = (r0, σ0)) (w : Wd D ay kC NC ad (aN NC ad) s σ H locs) (hl : lv_has ls 8 [(0, .ref (ad a0)), (2, .int l2), (3, .int l3), (4, .int l4), (5, .int l5), (6, .int l6)]) : W p l e (rmK 7 172) s m args below meth c H locs 0 0 (MQ below (cI D ay kC NC ad r0 σ0) args s 0 0 (aN NC ad)) (F0 m 77 ls []) := by
  have k_a0 := okr_in ok_a0
  unfold F_X11_bestOrder_77 at hf
  obtain ⟨v1, e_v1, hf⟩ := cL_some hf
  refine lv_iinc (v := v1) (lv' := [(6, .int v1), (0, .ref (ad a0)), (2, .int l2), (3, .int l3), (4, .int l4), (5, .int l5)]) G.hx G.hb (dcs_get dec_X11_bestOrder_1 2 rfl) hl (k := 5) rfl (by rw [e_v1]; rfl) (by decide) rfl (fun ls hl => ?_)
  refine lv_goto (tgt := 43) G.hx G.hb (dcs_get dec_X11_bestOrder_1 3 rfl) (by decide) ?_
  exact hb0 _ (Option.some.inj hf).symm _ _ _ w (lv_sub hl [1, 2, 3, 4, 5, 0] rfl)
set_option maxRecDepth 100000 in
set_option maxHeartbeats 4000000 in
theorem B_X11_bestOrder_93 {H : Heap} {locs : List Loc} {ls : Array Slot} {r0 : Int32} {σ0 : hSt} (s0 : Int32) (σ : hSt) (G : Gx p m c cX11_bestOrder 8 s args RX11 D ay NC ad (aN NC ad)) (hm : meth.sig.returnType = (some .int) ∧ meth.locks = false)  (hf : F_X11_bestOrder_93 s0 σ = some (r0, σ0))  (w : Wd D ay kC NC ad (aN NC ad) s σ H locs) (hl : lv_has ls 8 []) : W p l e (rmK 7 172) s m args below meth c H locs 0 0 (MQ below (cI D ay kC NC ad r0 σ0) args s 0 0 (aN NC ad)) (F0 m 93 ls [.int s0]) := by
  unfold F_X11_bestOrder_93 at hf
  have e9 := Option.some.inj hf
  exact r_iret G w hm (congrArg Prod.fst e9) (congrArg Prod.snd e9) (dcs_get dec_X11_bestOrder_1 9 rfl)
set_option maxRecDepth 100000 in
set_option maxHeartbeats 4000000 in
theorem B_X11_bestOrder_43b {H : Heap} {locs : List Loc} {ls : Array Slot} {r0 : Int32} {σ0 : hSt} {o : (Int32 × Int32 × Int32 × hSt) ⊕ (Int32 × hSt)} (a0 : Nat) (l2 : Int32) (l3 : Int32) (l4 : Int32) (l5 : Int32) (l6 : Int32) (σ : hSt) (G : Gx p m c cX11_bestOrder 8 s args RX11 D ay NC ad (aN NC ad)) (hm : meth.sig.returnType = (some .int) ∧ meth.locks = false) (ok_a0 : okr kC NC 11 a0 = true) (hf : F_X11_bestOrder_43b a0 l2 l3 l4 l5 l6 σ = some o) (hb0 : ∀ (v : Int32 × Int32 × Int32 × hSt), o = .inl v → ∀ (H : Heap) (locs : List Loc) (ls : Array Slot), Wd D ay kC NC ad (aN NC ad) s v.2.2.2 H locs → lv_has ls 8 [(0, .ref (ad a0)), (2, .int l2), (3, .int v.1), (4, .int v.2.1), (5, .int l5), (6, .int v.2.2.1)] → W p l e (rmK 7 172) s m args below meth c H locs 0 0 (MQ below (cI D ay kC NC ad r0 σ0) args s 0 0 (aN NC ad)) (F0 m 43 ls [])) (hr : ∀ x, o = .inr (x) → x = (r0, σ0)) (w : Wd D ay kC NC ad (aN NC ad) s σ H locs) (hl : lv_has ls 8 [(0, .ref (ad a0)), (2, .int l2), (3, .int l3), (4, .int l4), (5, .int l5), (6, .int l6)]) : W p l e (rmK 7 172) s m args below meth c H locs 0 0 (MQ below (cI D ay kC NC ad r0 σ0) args s 0 0 (aN NC ad)) (F0 m 43 ls []) := by
  have k_a0 := okr_in ok_a0
  unfold F_X11_bestOrder_43b at hf
  refine lv_iload G.hx G.hb (dcs_get dec_X11_bestOrder_0 25 rfl) (lv_at hl 5 rfl) ?_
  refine lv_iconst (v := (4 : Int32)) G.hx G.hb (dcs_get dec_X11_bestOrder_0 26 rfl) (by decide) ?_
  refine lv_icmp_ge (tgt := 83) G.hx G.hb (dcs_get dec_X11_bestOrder_0 27 rfl) (by decide) (fun hc => ?_) (fun hc => ?_)
  · rw [if_pos hc] at hf
    refine lv_iload_n G.hx G.hb (dcs_get dec_X11_bestOrder_1 4 rfl) rfl (lv_at hl 1 rfl) ?_
    refine lv_if_ne (tgt := 91) G.hx G.hb (dcs_get dec_X11_bestOrder_1 5 rfl) (by decide) (fun hc => ?_) (fun hc => ?_)
    · rw [if_neg hc] at hf
      refine lv_iload G.hx G.hb (dcs_get dec_X11_bestOrder_1 8 rfl) (lv_at hl 3 rfl) ?_
      obtain ⟨x9, h9, e9⟩ := map_some_inv hf
      subst e9
      have e8 := hr _ rfl
      rw [e8] at h9
      exact B_X11_bestOrder_93 l4 σ G hm  h9 w (lv_sub hl [] rfl)
    · rw [if_pos hc] at hf
      refine lv_iload_n G.hx G.hb (dcs_get dec_X11_bestOrder_1 6 rfl) rfl (lv_at hl 2 rfl) ?_
      refine lv_goto (tgt := 93) G.hx G.hb (dcs_get dec_X11_bestOrder_1 7 rfl) (by decide) ?_
      obtain ⟨x9, h9, e9⟩ := map_some_inv hf
      subst e9
      have e8 := hr _ rfl
      rw [e8] at h9
      exact B_X11_bestOrder_93 l3 σ G hm  h9 w (lv_sub hl [] rfl)
  · rw [if_neg hc] at hf
    refine lv_aload_n G.hx G.hb (dcs_get dec_X11_bestOrder_0 28 rfl) rfl (lv_at hl 0 rfl) ?_
    refine lv_iload G.hx G.hb (dcs_get dec_X11_bestOrder_0 29 rfl) (lv_at hl 4 rfl) ?_
    refine lv_iload G.hx G.hb (dcs_get dec_X11_bestOrder_0 30 rfl) (lv_at hl 5 rfl) ?_
    refine lv_iconst (v := (-1 : Int32)) G.hx G.hb (dcs_get dec_X11_bestOrder_0 31 rfl) (by decide) ?_
    obtain ⟨v3, σ4, h2, hf⟩ := cC_some hf
    refine a_i (k_V (As := [.int l5, .int l6, .int (-1 : Int32)]) (rest := []) cls11 lb_X11_daysTill lv_X11_daysTill q_835 (C_X11_daysTill G.2.2.1 a0 l5 l6 (-1 : Int32) σ h2 ok_a0) ⟨(Nat.le_of_ble_eq_true rfl), (Nat.le_of_ble_eq_true rfl)⟩ G w k_a0.1 k_a0.2 rfl rfl hl.1 (Nat.le_of_ble_eq_true rfl) (dcs_get dec_X11_bestOrder_0 32 rfl) ⟨Nat.le_refl _, Nat.le_refl _⟩) G w (fun H locs w => ?_)
    refine lv_istore (lv' := [(7, .int v3), (0, .ref (ad a0)), (2, .int l2), (3, .int l3), (4, .int l4), (5, .int l5), (6, .int l6)]) G.hx G.hb (dcs_get dec_X11_bestOrder_0 33 rfl) hl (by decide) rfl (fun ls hl => ?_)
    refine lv_iload G.hx G.hb (dcs_get dec_X11_bestOrder_0 34 rfl) (lv_at hl 0 rfl) ?_
    refine lv_iload G.hx G.hb (dcs_get dec_X11_bestOrder_0 35 rfl) (lv_at hl 4 rfl) ?_
    obtain ⟨v6, h5, hf⟩ := cB_some hf
    refine a_i (k_S (As := [.int v3, .int l4]) (rest := []) lb_X11_isSooner q_857 q_856 (C_X11_isSooner G.2.2.1 v3 l4 σ4 h5 ) ⟨(Nat.le_of_ble_eq_true rfl), (Nat.le_of_ble_eq_true rfl)⟩ G w rfl rfl hl.1 (Nat.le_of_ble_eq_true rfl) (dcs_get dec_X11_bestOrder_0 36 rfl) ⟨Nat.le_refl _, Nat.le_refl _⟩) G w (fun H locs w => ?_)
    refine lv_if_eq (tgt := 77) G.hx G.hb (dcs_get dec_X11_bestOrder_0 37 rfl) (by decide) (fun hc => ?_) (fun hc => ?_)
    · rw [if_pos hc] at hf
      exact B_X11_bestOrder_77 a0 l2 l3 l4 l5 l6 σ4 G hm ok_a0 hf hb0 hr w (lv_sub hl [1, 2, 3, 4, 5, 6] rfl)
    · rw [if_neg hc] at hf
      refine lv_iload G.hx G.hb (dcs_get dec_X11_bestOrder_0 38 rfl) (lv_at hl 6 rfl) ?_
      refine lv_istore_n (lv' := [(3, .int l6), (7, .int v3), (0, .ref (ad a0)), (2, .int l2), (4, .int l4), (5, .int l5), (6, .int l6)]) G.hx G.hb (dcs_get dec_X11_bestOrder_0 39 rfl) rfl hl (by decide) rfl (fun ls hl => ?_)
      refine lv_iload G.hx G.hb (dcs_get dec_X11_bestOrder_1 0 rfl) (lv_at hl 1 rfl) ?_
      refine lv_istore (lv' := [(4, .int v3), (3, .int l6), (7, .int v3), (0, .ref (ad a0)), (2, .int l2), (5, .int l5), (6, .int l6)]) G.hx G.hb (dcs_get dec_X11_bestOrder_1 1 rfl) hl (by decide) rfl (fun ls hl => ?_)
      exact B_X11_bestOrder_77 a0 l2 l6 v3 l5 l6 σ4 G hm ok_a0 hf hb0 hr w (lv_sub hl [3, 4, 1, 0, 5, 6] rfl)
set_option maxRecDepth 100000 in
set_option maxHeartbeats 4000000 in
theorem H_X11_bestOrder_43 {r0 : Int32} {σ0 : hSt} (a0 : Nat) (l2 : Int32) (l5 : Int32) (G : Gx p m c cX11_bestOrder 8 s args RX11 D ay NC ad (aN NC ad)) (hm : meth.sig.returnType = (some .int) ∧ meth.locks = false) (ok_a0 : okr kC NC 11 a0 = true)  : ∀ (k : Nat) (v : Int32 × Int32 × Int32 × hSt), lp (S_X11_bestOrder_43 a0 l2 l5) k v = some (r0, σ0) → ∀ (H : Heap) (locs : List Loc) (ls : Array Slot), Wd D ay kC NC ad (aN NC ad) s v.2.2.2 H locs → lv_has ls 8 [(0, .ref (ad a0)), (2, .int l2), (3, .int v.1), (4, .int v.2.1), (5, .int l5), (6, .int v.2.2.1)] → W p l e (rmK 7 172) s m args below meth c H locs 0 0 (MQ below (cI D ay kC NC ad r0 σ0) args s 0 0 (aN NC ad)) (F0 m 43 ls []) := by
  intro k
  induction k with
  | zero => intro v hf; cases hf
  | succ k ih =>
    intro v hf H locs ls w hl
    obtain ⟨o1, h1, h2, h3⟩ := lp_some hf
    exact B_X11_bestOrder_43b a0 l2 v.1 v.2.1 l5 v.2.2.1 v.2.2.2 G hm ok_a0 h1  (fun v' e => ih v' (h2 v' e)) (fun x e => h3 x e) w hl
set_option maxRecDepth 100000 in
set_option maxHeartbeats 4000000 in
theorem B_X11_bestOrder_43 {H : Heap} {locs : List Loc} {ls : Array Slot} {r0 : Int32} {σ0 : hSt} (a0 : Nat) (l2 : Int32) (l3 : Int32) (l4 : Int32) (l5 : Int32) (l6 : Int32) (σ : hSt) (G : Gx p m c cX11_bestOrder 8 s args RX11 D ay NC ad (aN NC ad)) (hm : meth.sig.returnType = (some .int) ∧ meth.locks = false) (ok_a0 : okr kC NC 11 a0 = true) (hf : F_X11_bestOrder_43 a0 l2 l3 l4 l5 l6 σ = some (r0, σ0))  (w : Wd D ay kC NC ad (aN NC ad) s σ H locs) (hl : lv_has ls 8 [(0, .ref (ad a0)), (2, .int l2), (3, .int l3), (4, .int l4), (5, .int l5), (6, .int l6)]) : W p l e (rmK 7 172) s m args below meth c H locs 0 0 (MQ below (cI D ay kC NC ad r0 σ0) args s 0 0 (aN NC ad)) (F0 m 43 ls []) := by
  unfold F_X11_bestOrder_43 at hf
  exact H_X11_bestOrder_43 a0 l2 l5  G hm ok_a0  fuel (l3, l4, l6, σ) hf _ _ _ w hl
set_option maxRecDepth 100000 in
set_option maxHeartbeats 4000000 in
theorem B_X11_bestOrder_0 {H : Heap} {locs : List Loc} {ls : Array Slot} {r0 : Int32} {σ0 : hSt} (a0 : Nat) (l1 : Int32) (l2 : Int32) (σ : hSt) (G : Gx p m c cX11_bestOrder 8 s args RX11 D ay NC ad (aN NC ad)) (hm : meth.sig.returnType = (some .int) ∧ meth.locks = false) (ok_a0 : okr kC NC 11 a0 = true) (hf : F_X11_bestOrder a0 l1 l2 σ = some (r0, σ0))  (w : Wd D ay kC NC ad (aN NC ad) s σ H locs) (hl : lv_has ls 8 [(0, .ref (ad a0)), (1, .int l1), (2, .int l2)]) : W p l e (rmK 7 172) s m args below meth c H locs 0 0 (MQ below (cI D ay kC NC ad r0 σ0) args s 0 0 (aN NC ad)) (F0 m 0 ls []) := by
  have k_a0 := okr_in ok_a0
  unfold F_X11_bestOrder at hf
  refine lv_aload_n G.hx G.hb (dcs_get dec_X11_bestOrder_0 0 rfl) rfl (lv_at hl 0 rfl) ?_
  refine lv_iload_n G.hx G.hb (dcs_get dec_X11_bestOrder_0 1 rfl) rfl (lv_at hl 1 rfl) ?_
  obtain ⟨v8, h7, hf⟩ := cB_some hf
  refine a_i (k_V (As := [.int l1]) (rest := []) cls11 lb_X11_isNews lv_X11_isNews q_720 (C_X11_isNews G.2.2.1 a0 l1 σ h7 ok_a0) ⟨(Nat.le_of_ble_eq_true rfl), (Nat.le_of_ble_eq_true rfl)⟩ G w k_a0.1 k_a0.2 rfl rfl hl.1 (Nat.le_of_ble_eq_true rfl) (dcs_get dec_X11_bestOrder_0 2 rfl) ⟨Nat.le_refl _, Nat.le_refl _⟩) G w (fun H locs w => ?_)
  refine lv_if_eq (tgt := 17) G.hx G.hb (dcs_get dec_X11_bestOrder_0 3 rfl) (by decide) (fun hc => ?_) (fun hc => ?_)
  · rw [if_pos hc] at hf
    exact B_X11_bestOrder_17  σ G hm  hf  w (lv_sub hl [] rfl)
  · rw [if_neg hc] at hf
    refine lv_iload_n G.hx G.hb (dcs_get dec_X11_bestOrder_0 4 rfl) rfl (lv_at hl 2 rfl) ?_
    refine lv_if_lt (tgt := 17) G.hx G.hb (dcs_get dec_X11_bestOrder_0 5 rfl) (by decide) (fun hc => ?_) (fun hc => ?_)
    · rw [if_pos hc] at hf
      exact B_X11_bestOrder_17  σ G hm  hf  w (lv_sub hl [] rfl)
    · rw [if_neg hc] at hf
      refine lv_iload_n G.hx G.hb (dcs_get dec_X11_bestOrder_0 6 rfl) rfl (lv_at hl 2 rfl) ?_
      refine lv_iconst (v := (1 : Int32)) G.hx G.hb (dcs_get dec_X11_bestOrder_0 7 rfl) (by decide) ?_
      refine lv_icmp_le (tgt := 19) G.hx G.hb (dcs_get dec_X11_bestOrder_0 8 rfl) (by decide) (fun hc => ?_) (fun hc => ?_)
      · rw [if_pos hc] at hf
        refine lv_bipush (v := (-2 : Int32)) G.hx G.hb (dcs_get dec_X11_bestOrder_0 11 rfl) (by decide) ?_
        refine lv_istore_n (lv' := [(3, .int (-2 : Int32)), (0, .ref (ad a0)), (1, .int l1), (2, .int l2)]) G.hx G.hb (dcs_get dec_X11_bestOrder_0 12 rfl) rfl hl (by decide) rfl (fun ls hl => ?_)
        refine lv_bipush (v := (-2 : Int32)) G.hx G.hb (dcs_get dec_X11_bestOrder_0 13 rfl) (by decide) ?_
        refine lv_istore (lv' := [(4, .int (-2 : Int32)), (3, .int (-2 : Int32)), (0, .ref (ad a0)), (1, .int l1), (2, .int l2)]) G.hx G.hb (dcs_get dec_X11_bestOrder_0 14 rfl) hl (by decide) rfl (fun ls hl => ?_)
        refine lv_aload_n G.hx G.hb (dcs_get dec_X11_bestOrder_0 15 rfl) rfl (lv_at hl 2 rfl) ?_
        obtain ⟨z9, e_z9, ok_z9, hf⟩ := cR_some hf
        have k_z9 := okr_in ok_z9
        refine r_getr (k := 1) cls11 fi_11_1.1 fi_11_1.2 q_392 G w k_a0.1 k_a0.2 e_z9 (dcs_get dec_X11_bestOrder_0 16 rfl) ?_
        obtain ⟨v11, h10, hf⟩ := cB_some hf
        refine a_i (k_VN (As := []) (rest := []) cls7 lb_X7_allHills lv_X7_allHills nm_852 (C_X7_allHills G.2.2.1 z9 σ h10 ok_z9) ⟨(Nat.le_of_ble_eq_true rfl), (Nat.le_of_ble_eq_true rfl)⟩ G w k_z9.1 k_z9.2 rfl rfl hl.1 (Nat.le_of_ble_eq_true rfl) (dcs_get dec_X11_bestOrder_0 17 rfl) ⟨Nat.le_refl _, Nat.le_refl _⟩) G w (fun H locs w => ?_)
        refine lv_bipush (v := (6 : Int32)) G.hx G.hb (dcs_get dec_X11_bestOrder_0 18 rfl) (by decide) ?_
        refine lv_iload_n G.hx G.hb (dcs_get dec_X11_bestOrder_0 19 rfl) rfl (lv_at hl 3 rfl) ?_
        refine lv_imul G.hx G.hb (dcs_get dec_X11_bestOrder_0 20 rfl) ?_
        refine lv_ishl G.hx G.hb (dcs_get dec_X11_bestOrder_0 21 rfl) ?_
        obtain ⟨v12, e_v12, hf⟩ := cL_some hf
        refine r_topi e_v12 ?_
        refine lv_istore (lv' := [(5, .int v12), (4, .int (-2 : Int32)), (3, .int (-2 : Int32)), (0, .ref (ad a0)), (1, .int l1), (2, .int l2)]) G.hx G.hb (dcs_get dec_X11_bestOrder_0 22 rfl) hl (by decide) rfl (fun ls hl => ?_)
        refine lv_iconst (v := (0 : Int32)) G.hx G.hb (dcs_get dec_X11_bestOrder_0 23 rfl) (by decide) ?_
        refine lv_istore (lv' := [(6, .int (0 : Int32)), (5, .int v12), (4, .int (-2 : Int32)), (3, .int (-2 : Int32)), (0, .ref (ad a0)), (1, .int l1), (2, .int l2)]) G.hx G.hb (dcs_get dec_X11_bestOrder_0 24 rfl) hl (by decide) rfl (fun ls hl => ?_)
        exact B_X11_bestOrder_43 a0 l2 (-2 : Int32) (-2 : Int32) v12 (0 : Int32) σ G hm ok_a0 hf  w (lv_sub hl [4, 6, 3, 2, 1, 0] rfl)
      · rw [if_neg hc] at hf
        exact B_X11_bestOrder_17  σ G hm  hf  w (lv_sub hl [] rfl)
end
set_option maxRecDepth 100000 in
set_option maxHeartbeats 4000000 in
theorem C_X11_bestOrder {l : Launch} {D : va_G} {ay : Nat → ClassId} {ad : Nat → Nat} (hi : hInj NC ad) (a0 : Nat) (l1 : Int32) (l2 : Int32) (σ : hSt) {r0 : Int32} {σ0 : hSt} (hf : F_X11_bestOrder a0 l1 l2 σ = some (r0, σ0)) (ok_a0 : okr kC NC 11 a0 = true) : hM l D ay kC NC ad yX11_bestOrder cX11_bestOrder 8 ((some .int)) (rmK 7 172) [.ref (ad a0), .int l1, .int l2] σ (cI D ay kC NC ad r0 σ0) := by
  refine hM_in (by decide) hi (Nat.le_of_ble_eq_true rfl) ?_
  intro p e s m below meth c G hm w ls hl
  exact B_X11_bestOrder_0 a0 l1 l2 σ G hm ok_a0 hf w (lv_sub hl [0, 1, 2] rfl)

/-! HillDrums.quiet(III)I -/
def DL_X11_quiet_0 : List (Nat × Instr × Nat) := [(0, .aload_n 0, 1), (1, .iload_n 1, 1), (2, .invokevirtual 128, 3), (5, .ifCond .eq 32, 3), (8, .aload_n 0, 1), (9, .iload_n 2, 1), (10, .invokevirtual 120, 3), (13, .ifCond .eq 24, 3), (16, .iload_n 3, 1), (17, .ifCond .lt 20, 3), (20, .iload_n 3, 1), (21, .iconst 1, 1), (22, .if_icmp .gt 15, 3), (25, .aload_n 0, 1), (26, .getfield 42, 3), (29, .iload_n 2, 1), (30, .iload_n 1, 1), (31, .invokevirtual 131, 3), (34, .ifCond .eq 5, 3), (37, .iconst (-1), 1), (38, .ireturn, 1), (39, .iconst 1, 1), (40, .iload_n 2, 1), (41, .iload_n 1, 1), (42, .invokestatic 135, 3), (45, .ishl, 1), (46, .istore 4, 2), (48, .bipush (-2), 2), (50, .istore 5, 2), (52, .aload_n 0, 1), (53, .iload 4, 2), (55, .aload_n 0, 1), (56, .getfield 19, 3), (59, .getfield 185, 3), (62, .iconst (-1), 1), (63, .invokevirtual 219, 3), (66, .istore 6, 2), (68, .iconst 0, 1), (69, .istore 7, 2), (71, .iload 7, 2)]
set_option maxRecDepth 100000 in
theorem dec_X11_quiet_0 : dcs cX11_quiet DL_X11_quiet_0 = true := by decide +kernel
def DL_X11_quiet_1 : List (Nat × Instr × Nat) := [(73, .aload_n 0, 1), (74, .getfield 19, 3), (77, .getfield 114, 3), (80, .if_icmp .ge 44, 3), (83, .aload_n 0, 1), (84, .iload 4, 2), (86, .aload_n 0, 1), (87, .getfield 19, 3), (90, .getfield 185, 3), (93, .iload 7, 2), (95, .invokevirtual 219, 3), (98, .istore 8, 2), (100, .iload 8, 2), (102, .iload 6, 2), (104, .invokestatic 229, 3), (107, .ifCond .eq 11, 3), (110, .iload 7, 2), (112, .istore 5, 2), (114, .iload 8, 2), (116, .istore 6, 2), (118, .iinc 7 1, 3), (121, .goto (-50), 3), (124, .iload_n 3, 1), (125, .ifCond .ne 8, 3), (128, .iload 5, 2), (130, .goto 5, 3), (133, .iload 6, 2), (135, .ireturn, 1)]
set_option maxRecDepth 100000 in
theorem dec_X11_quiet_1 : dcs cX11_quiet DL_X11_quiet_1 = true := by decide +kernel
theorem lb_X11_quiet : lkB yX11_quiet cX11_quiet 9 ((some .int)) 3 := ⟨q_862, q_1, ⟨by decide, by decide⟩, by decide +kernel⟩
theorem lv_X11_quiet : lkV yX11_quiet := ⟨q_860, q_861⟩
def F_X11_quiet_37  (σ : hSt) : Option (Int32 × hSt) :=
some (((-1 : Int32), σ))
def F_X11_quiet_118 (a0 : Nat) (l3 : Int32) (l4 : Int32) (l5 : Int32) (l6 : Int32) (l7 : Int32) (σ : hSt) : Option ((Int32 × Int32 × Int32 × hSt) ⊕ (Int32 × hSt)) :=
cL (l7 + (1 : Int32)) fun v1 =>
some (.inl (l5, l6, v1, σ))
def F_X11_quiet_135 (s0 : Int32) (σ : hSt) : Option (Int32 × hSt) :=
some ((s0, σ))
def F_X11_quiet_71b (a0 : Nat) (l3 : Int32) (l4 : Int32) (l5 : Int32) (l6 : Int32) (l7 : Int32) (σ : hSt) : Option ((Int32 × Int32 × Int32 × hSt) ⊕ (Int32 × hSt)) :=
cR (σ.2.2 a0 1) (okr kC NC 7) fun z2 =>
if (σ.1 z2 0) ≤ l7 then (
if l3 = 0 then (
(F_X11_quiet_135 l5 σ).map (fun x => .inr (x))) else (
(F_X11_quiet_135 l6 σ).map (fun x => .inr (x)))) else (
cR (σ.2.2 a0 1) (okr kC NC 7) fun z3 =>
cC (F_X11_daysTill a0 l4 (σ.1 z3 8) l7 σ) fun v5 σ6 =>
(F_X11_isSooner v5 l6 σ6).bind fun v8 =>
if v8 = 0 then (
F_X11_quiet_118 a0 l3 l4 l5 l6 l7 σ6) else (
F_X11_quiet_118 a0 l3 l4 l7 v5 l7 σ6))
def S_X11_quiet_71 (a0 : Nat) (l3 : Int32) (l4 : Int32) (v : Int32 × Int32 × Int32 × hSt) : Option ((Int32 × Int32 × Int32 × hSt) ⊕ (Int32 × hSt)) := F_X11_quiet_71b a0 l3 l4 v.1 v.2.1 v.2.2.1 v.2.2.2
def F_X11_quiet_71 (a0 : Nat) (l3 : Int32) (l4 : Int32) (l5 : Int32) (l6 : Int32) (l7 : Int32) (σ : hSt) : Option (Int32 × hSt) := lp (S_X11_quiet_71 a0 l3 l4) fuel (l5, l6, l7, σ)
def F_X11_quiet (a0 : Nat) (l1 : Int32) (l2 : Int32) (l3 : Int32) (σ : hSt) : Option (Int32 × hSt) :=
(F_X11_isNews a0 l1 σ).bind fun v10 =>
if v10 = 0 then (
F_X11_quiet_37  σ) else (
(F_X11_isHill a0 l2 σ).bind fun v12 =>
if v12 = 0 then (
F_X11_quiet_37  σ) else (
if l3 < 0 then (
F_X11_quiet_37  σ) else (
if (1 : Int32) < l3 then (
F_X11_quiet_37  σ) else (
cR (σ.2.2 a0 5) (okr kC NC 10) fun z13 =>
(F_X10_knows z13 l2 l1 σ).bind fun v15 =>
if v15 = 0 then (
(F_X11_pairOf l2 l1 σ).bind fun v17 =>
cL ((1 : Int32) <<< (v17 &&& 31)) fun v18 =>
cR (σ.2.2 a0 1) (okr kC NC 7) fun z19 =>
cC (F_X11_daysTill a0 v18 (σ.1 z19 8) (-1 : Int32) σ) fun v21 σ22 =>
F_X11_quiet_71 a0 l3 v18 (-2 : Int32) v21 (0 : Int32) σ22) else (
F_X11_quiet_37  σ)))))
section
variable {p : Program} {l : Launch} {e : Env} {s : State} {m : MethodId} {args : Array Value} {below : List Frame} {meth : Method} {c : Code} {D : va_G} {ay : Nat → ClassId} {ad : Nat → Nat}
set_option maxRecDepth 100000 in
set_option maxHeartbeats 4000000 in
theorem B_X11_quiet_37 {H : Heap} {locs : List Loc} {ls : Array Slot} {r0 : Int32} {σ0 : hSt}  (σ : hSt) (G : Gx p m c cX11_quiet 9 s args RX11 D ay NC ad (aN NC ad)) (hm : meth.sig.returnType = (some .int) ∧ meth.locks = false)  (hf : F_X11_quiet_37  σ = some (r0, σ0))  (w : Wd D ay kC NC ad (aN NC ad) s σ H locs) (hl : lv_has ls 9 []) : W p l e (rmK 7 172) s m args below meth c H locs 0 0 (MQ below (cI D ay kC NC ad r0 σ0) args s 0 0 (aN NC ad)) (F0 m 37 ls []) := by
  unfold F_X11_quiet_37 at hf
  refine lv_iconst (v := (-1 : Int32)) G.hx G.hb (dcs_get dec_X11_quiet_0 19 rfl) (by decide) ?_
  have e9 := Option.some.inj hf
  exact r_iret G w hm (congrArg Prod.fst e9) (congrArg Prod.snd e9) (dcs_get dec_X11_quiet_0 20 rfl)
set_option maxRecDepth 100000 in
set_option maxHeartbeats 4000000 in
theorem B_X11_quiet_118 {H : Heap} {locs : List Loc} {ls : Array Slot} {r0 : Int32} {σ0 : hSt} {o : (Int32 × Int32 × Int32 × hSt) ⊕ (Int32 × hSt)} (a0 : Nat) (l3 : Int32) (l4 : Int32) (l5 : Int32) (l6 : Int32) (l7 : Int32) (σ : hSt) (G : Gx p m c cX11_quiet 9 s args RX11 D ay NC ad (aN NC ad)) (hm : meth.sig.returnType = (some .int) ∧ meth.locks = false) (ok_a0 : okr kC NC 11 a0 = true) (hf : F_X11_quiet_118 a0 l3 l4 l5 l6 l7 σ = some o) (hb0 : ∀ (v : Int32 × Int32 × Int32 × hSt), o = .inl v → ∀ (H : Heap) (locs : List Loc) (ls : Array Slot), Wd D ay kC NC ad (aN NC ad) s v.2.2.2 H locs → lv_has ls 9 [(0, .ref (ad a0)), (3, .int l3), (4, .int l4), (5, .int v.1), (6, .int v.2.1), (7, .int v.2.2.1)] → W p l e (rmK 7 172) s m args below meth c H locs 0 0 (MQ below (cI D ay kC NC ad r0 σ0) args s 0 0 (aN NC ad)) (F0 m 71 ls [])) (hr : ∀ x, o = .inr (x) → x = (r0, σ0)) (w : Wd D ay kC NC ad (aN NC ad) s σ H locs) (hl : lv_has ls 9 [(0, .ref (ad a0)), (3, .int l3), (4, .int l4), (5, .int l5), (6, .int l6), (7, .int l7)]) : W p l e (rmK 7 172) s m args below meth c H locs 0 0 (MQ below (cI D ay kC NC ad r0 σ0) args s 0 0 (aN NC ad)) (F0 m 118 ls []) := by
  have k_a0 := okr_in ok_a0
  unfold F_X11_quiet_118 at hf
  obtain ⟨v1, e_v1, hf⟩ := cL_some hf
  refine lv_iinc (v := v1) (lv' := [(7, .int v1), (0, .ref (ad a0)), (3, .int l3), (4, .int l4), (5, .int l5), (6, .int l6)]) G.hx G.hb (dcs_get dec_X11_quiet_1 20 rfl) hl (k := 5) rfl (by rw [e_v1]; rfl) (by decide) rfl (fun ls hl => ?_)
  refine lv_goto (tgt := 71) G.hx G.hb (dcs_get dec_X11_quiet_1 21 rfl) (by decide) ?_
  exact hb0 _ (Option.some.inj hf).symm _ _ _ w (lv_sub hl [1, 2, 3, 4, 5, 0] rfl)
set_option maxRecDepth 100000 in
set_option maxHeartbeats 4000000 in
theorem B_X11_quiet_135 {H : Heap} {locs : List Loc} {ls : Array Slot} {r0 : Int32} {σ0 : hSt} (s0 : Int32) (σ : hSt) (G : Gx p m c cX11_quiet 9 s args RX11 D ay NC ad (aN NC ad)) (hm : meth.sig.returnType = (some .int) ∧ meth.locks = false)  (hf : F_X11_quiet_135 s0 σ = some (r0, σ0))  (w : Wd D ay kC NC ad (aN NC ad) s σ H locs) (hl : lv_has ls 9 []) : W p l e (rmK 7 172) s m args below meth c H locs 0 0 (MQ below (cI D ay kC NC ad r0 σ0) args s 0 0 (aN NC ad)) (F0 m 135 ls [.int s0]) := by
  unfold F_X11_quiet_135 at hf
  have e9 := Option.some.inj hf
  exact r_iret G w hm (congrArg Prod.fst e9) (congrArg Prod.snd e9) (dcs_get dec_X11_quiet_1 27 rfl)
set_option maxRecDepth 100000 in
set_option maxHeartbeats 4000000 in
theorem B_X11_quiet_71b {H : Heap} {locs : List Loc} {ls : Array Slot} {r0 : Int32} {σ0 : hSt} {o : (Int32 × Int32 × Int32 × hSt) ⊕ (Int32 × hSt)} (a0 : Nat) (l3 : Int32) (l4 : Int32) (l5 : Int32) (l6 : Int32) (l7 : Int32) (σ : hSt) (G : Gx p m c cX11_quiet 9 s args RX11 D ay NC ad (aN NC ad)) (hm : meth.sig.returnType = (some .int) ∧ meth.locks = false) (ok_a0 : okr kC NC 11 a0 = true) (hf : F_X11_quiet_71b a0 l3 l4 l5 l6 l7 σ = some o) (hb0 : ∀ (v : Int32 × Int32 × Int32 × hSt), o = .inl v → ∀ (H : Heap) (locs : List Loc) (ls : Array Slot), Wd D ay kC NC ad (aN NC ad) s v.2.2.2 H locs → lv_has ls 9 [(0, .ref (ad a0)), (3, .int l3), (4, .int l4), (5, .int v.1), (6, .int v.2.1), (7, .int v.2.2.1)] → W p l e (rmK 7 172) s m args below meth c H locs 0 0 (MQ below (cI D ay kC NC ad r0 σ0) args s 0 0 (aN NC ad)) (F0 m 71 ls [])) (hr : ∀ x, o = .inr (x) → x = (r0, σ0)) (w : Wd D ay kC NC ad (aN NC ad) s σ H locs) (hl : lv_has ls 9 [(0, .ref (ad a0)), (3, .int l3), (4, .int l4), (5, .int l5), (6, .int l6), (7, .int l7)]) : W p l e (rmK 7 172) s m args below meth c H locs 0 0 (MQ below (cI D ay kC NC ad r0 σ0) args s 0 0 (aN NC ad)) (F0 m 71 ls []) := by
  have k_a0 := okr_in ok_a0
  unfold F_X11_quiet_71b at hf
  refine lv_iload G.hx G.hb (dcs_get dec_X11_quiet_0 39 rfl) (lv_at hl 5 rfl) ?_
  refine lv_aload_n G.hx G.hb (dcs_get dec_X11_quiet_1 0 rfl) rfl (lv_at hl 0 rfl) ?_
  obtain ⟨z2, e_z2, ok_z2, hf⟩ := cR_some hf
  have k_z2 := okr_in ok_z2
  refine r_getr (k := 1) cls11 fi_11_1.1 fi_11_1.2 q_392 G w k_a0.1 k_a0.2 e_z2 (dcs_get dec_X11_quiet_1 1 rfl) ?_
  refine r_getiN (k := 0) cls7 fi_7_0.1 fi_7_0.2 nf_94 G w k_z2.1 k_z2.2 (dcs_get dec_X11_quiet_1 2 rfl) ?_
  refine lv_icmp_ge (tgt := 124) G.hx G.hb (dcs_get dec_X11_quiet_1 3 rfl) (by decide) (fun hc => ?_) (fun hc => ?_)
  · rw [if_pos hc] at hf
    refine lv_iload_n G.hx G.hb (dcs_get dec_X11_quiet_1 22 rfl) rfl (lv_at hl 1 rfl) ?_
    refine lv_if_ne (tgt := 133) G.hx G.hb (dcs_get dec_X11_quiet_1 23 rfl) (by decide) (fun hc => ?_) (fun hc => ?_)
    · rw [if_neg hc] at hf
      refine lv_iload G.hx G.hb (dcs_get dec_X11_quiet_1 26 rfl) (lv_at hl 4 rfl) ?_
      obtain ⟨x9, h9, e9⟩ := map_some_inv hf
      subst e9
      have e8 := hr _ rfl
      rw [e8] at h9
      exact B_X11_quiet_135 l6 σ G hm  h9 w (lv_sub hl [] rfl)
    · rw [if_pos hc] at hf
      refine lv_iload G.hx G.hb (dcs_get dec_X11_quiet_1 24 rfl) (lv_at hl 3 rfl) ?_
      refine lv_goto (tgt := 135) G.hx G.hb (dcs_get dec_X11_quiet_1 25 rfl) (by decide) ?_
      obtain ⟨x9, h9, e9⟩ := map_some_inv hf
      subst e9
      have e8 := hr _ rfl
      rw [e8] at h9
      exact B_X11_quiet_135 l5 σ G hm  h9 w (lv_sub hl [] rfl)
  · rw [if_neg hc] at hf
    refine lv_aload_n G.hx G.hb (dcs_get dec_X11_quiet_1 4 rfl) rfl (lv_at hl 0 rfl) ?_
    refine lv_iload G.hx G.hb (dcs_get dec_X11_quiet_1 5 rfl) (lv_at hl 2 rfl) ?_
    refine lv_aload_n G.hx G.hb (dcs_get dec_X11_quiet_1 6 rfl) rfl (lv_at hl 0 rfl) ?_
    obtain ⟨z3, e_z3, ok_z3, hf⟩ := cR_some hf
    have k_z3 := okr_in ok_z3
    refine r_getr (k := 1) cls11 fi_11_1.1 fi_11_1.2 q_392 G w k_a0.1 k_a0.2 e_z3 (dcs_get dec_X11_quiet_1 7 rfl) ?_
    refine r_getiN (k := 8) cls7 fi_7_8.1 fi_7_8.2 nf_120 G w k_z3.1 k_z3.2 (dcs_get dec_X11_quiet_1 8 rfl) ?_
    refine lv_iload G.hx G.hb (dcs_get dec_X11_quiet_1 9 rfl) (lv_at hl 5 rfl) ?_
    obtain ⟨v5, σ6, h4, hf⟩ := cC_some hf
    refine a_i (k_V (As := [.int l4, .int (σ.1 z3 8), .int l7]) (rest := []) cls11 lb_X11_daysTill lv_X11_daysTill q_835 (C_X11_daysTill G.2.2.1 a0 l4 (σ.1 z3 8) l7 σ h4 ok_a0) ⟨(Nat.le_of_ble_eq_true rfl), (Nat.le_of_ble_eq_true rfl)⟩ G w k_a0.1 k_a0.2 rfl rfl hl.1 (Nat.le_of_ble_eq_true rfl) (dcs_get dec_X11_quiet_1 10 rfl) ⟨Nat.le_refl _, Nat.le_refl _⟩) G w (fun H locs w => ?_)
    refine lv_istore (lv' := [(8, .int v5), (0, .ref (ad a0)), (3, .int l3), (4, .int l4), (5, .int l5), (6, .int l6), (7, .int l7)]) G.hx G.hb (dcs_get dec_X11_quiet_1 11 rfl) hl (by decide) rfl (fun ls hl => ?_)
    refine lv_iload G.hx G.hb (dcs_get dec_X11_quiet_1 12 rfl) (lv_at hl 0 rfl) ?_
    refine lv_iload G.hx G.hb (dcs_get dec_X11_quiet_1 13 rfl) (lv_at hl 5 rfl) ?_
    obtain ⟨v8, h7, hf⟩ := cB_some hf
    refine a_i (k_S (As := [.int v5, .int l6]) (rest := []) lb_X11_isSooner q_857 q_856 (C_X11_isSooner G.2.2.1 v5 l6 σ6 h7 ) ⟨(Nat.le_of_ble_eq_true rfl), (Nat.le_of_ble_eq_true rfl)⟩ G w rfl rfl hl.1 (Nat.le_of_ble_eq_true rfl) (dcs_get dec_X11_quiet_1 14 rfl) ⟨Nat.le_refl _, Nat.le_refl _⟩) G w (fun H locs w => ?_)
    refine lv_if_eq (tgt := 118) G.hx G.hb (dcs_get dec_X11_quiet_1 15 rfl) (by decide) (fun hc => ?_) (fun hc => ?_)
    · rw [if_pos hc] at hf
      exact B_X11_quiet_118 a0 l3 l4 l5 l6 l7 σ6 G hm ok_a0 hf hb0 hr w (lv_sub hl [1, 2, 3, 4, 5, 6] rfl)
    · rw [if_neg hc] at hf
      refine lv_iload G.hx G.hb (dcs_get dec_X11_quiet_1 16 rfl) (lv_at hl 6 rfl) ?_
      refine lv_istore (lv' := [(5, .int l7), (8, .int v5), (0, .ref (ad a0)), (3, .int l3), (4, .int l4), (6, .int l6), (7, .int l7)]) G.hx G.hb (dcs_get dec_X11_quiet_1 17 rfl) hl (by decide) rfl (fun ls hl => ?_)
      refine lv_iload G.hx G.hb (dcs_get dec_X11_quiet_1 18 rfl) (lv_at hl 1 rfl) ?_
      refine lv_istore (lv' := [(6, .int v5), (5, .int l7), (8, .int v5), (0, .ref (ad a0)), (3, .int l3), (4, .int l4), (7, .int l7)]) G.hx G.hb (dcs_get dec_X11_quiet_1 19 rfl) hl (by decide) rfl (fun ls hl => ?_)
      exact B_X11_quiet_118 a0 l3 l4 l7 v5 l7 σ6 G hm ok_a0 hf hb0 hr w (lv_sub hl [3, 4, 5, 1, 0, 6] rfl)
set_option maxRecDepth 100000 in
set_option maxHeartbeats 4000000 in
theorem H_X11_quiet_71 {r0 : Int32} {σ0 : hSt} (a0 : Nat) (l3 : Int32) (l4 : Int32) (G : Gx p m c cX11_quiet 9 s args RX11 D ay NC ad (aN NC ad)) (hm : meth.sig.returnType = (some .int) ∧ meth.locks = false) (ok_a0 : okr kC NC 11 a0 = true)  : ∀ (k : Nat) (v : Int32 × Int32 × Int32 × hSt), lp (S_X11_quiet_71 a0 l3 l4) k v = some (r0, σ0) → ∀ (H : Heap) (locs : List Loc) (ls : Array Slot), Wd D ay kC NC ad (aN NC ad) s v.2.2.2 H locs → lv_has ls 9 [(0, .ref (ad a0)), (3, .int l3), (4, .int l4), (5, .int v.1), (6, .int v.2.1), (7, .int v.2.2.1)] → W p l e (rmK 7 172) s m args below meth c H locs 0 0 (MQ below (cI D ay kC NC ad r0 σ0) args s 0 0 (aN NC ad)) (F0 m 71 ls []) := by
  intro k
  induction k with
  | zero => intro v hf; cases hf
  | succ k ih =>
    intro v hf H locs ls w hl
    obtain ⟨o1, h1, h2, h3⟩ := lp_some hf
    exact B_X11_quiet_71b a0 l3 l4 v.1 v.2.1 v.2.2.1 v.2.2.2 G hm ok_a0 h1  (fun v' e => ih v' (h2 v' e)) (fun x e => h3 x e) w hl
set_option maxRecDepth 100000 in
set_option maxHeartbeats 4000000 in
theorem B_X11_quiet_71 {H : Heap} {locs : List Loc} {ls : Array Slot} {r0 : Int32} {σ0 : hSt} (a0 : Nat) (l3 : Int32) (l4 : Int32) (l5 : Int32) (l6 : Int32) (l7 : Int32) (σ : hSt) (G : Gx p m c cX11_quiet 9 s args RX11 D ay NC ad (aN NC ad)) (hm : meth.sig.returnType = (some .int) ∧ meth.locks = false) (ok_a0 : okr kC NC 11 a0 = true) (hf : F_X11_quiet_71 a0 l3 l4 l5 l6 l7 σ = some (r0, σ0))  (w : Wd D ay kC NC ad (aN NC ad) s σ H locs) (hl : lv_has ls 9 [(0, .ref (ad a0)), (3, .int l3), (4, .int l4), (5, .int l5), (6, .int l6), (7, .int l7)]) : W p l e (rmK 7 172) s m args below meth c H locs 0 0 (MQ below (cI D ay kC NC ad r0 σ0) args s 0 0 (aN NC ad)) (F0 m 71 ls []) := by
  unfold F_X11_quiet_71 at hf
  exact H_X11_quiet_71 a0 l3 l4  G hm ok_a0  fuel (l5, l6, l7, σ) hf _ _ _ w hl
set_option maxRecDepth 100000 in
set_option maxHeartbeats 4000000 in
theorem B_X11_quiet_0 {H : Heap} {locs : List Loc} {ls : Array Slot} {r0 : Int32} {σ0 : hSt} (a0 : Nat) (l1 : Int32) (l2 : Int32) (l3 : Int32) (σ : hSt) (G : Gx p m c cX11_quiet 9 s args RX11 D ay NC ad (aN NC ad)) (hm : meth.sig.returnType = (some .int) ∧ meth.locks = false) (ok_a0 : okr kC NC 11 a0 = true) (hf : F_X11_quiet a0 l1 l2 l3 σ = some (r0, σ0))  (w : Wd D ay kC NC ad (aN NC ad) s σ H locs) (hl : lv_has ls 9 [(0, .ref (ad a0)), (1, .int l1), (2, .int l2), (3, .int l3)]) : W p l e (rmK 7 172) s m args below meth c H locs 0 0 (MQ below (cI D ay kC NC ad r0 σ0) args s 0 0 (aN NC ad)) (F0 m 0 ls []) := by
  have k_a0 := okr_in ok_a0
  unfold F_X11_quiet at hf
  refine lv_aload_n G.hx G.hb (dcs_get dec_X11_quiet_0 0 rfl) rfl (lv_at hl 0 rfl) ?_
  refine lv_iload_n G.hx G.hb (dcs_get dec_X11_quiet_0 1 rfl) rfl (lv_at hl 1 rfl) ?_
  obtain ⟨v10, h9, hf⟩ := cB_some hf
  refine a_i (k_V (As := [.int l1]) (rest := []) cls11 lb_X11_isNews lv_X11_isNews q_720 (C_X11_isNews G.2.2.1 a0 l1 σ h9 ok_a0) ⟨(Nat.le_of_ble_eq_true rfl), (Nat.le_of_ble_eq_true rfl)⟩ G w k_a0.1 k_a0.2 rfl rfl hl.1 (Nat.le_of_ble_eq_true rfl) (dcs_get dec_X11_quiet_0 2 rfl) ⟨Nat.le_refl _, Nat.le_refl _⟩) G w (fun H locs w => ?_)
  refine lv_if_eq (tgt := 37) G.hx G.hb (dcs_get dec_X11_quiet_0 3 rfl) (by decide) (fun hc => ?_) (fun hc => ?_)
  · rw [if_pos hc] at hf
    exact B_X11_quiet_37  σ G hm  hf  w (lv_sub hl [] rfl)
  · rw [if_neg hc] at hf
    refine lv_aload_n G.hx G.hb (dcs_get dec_X11_quiet_0 4 rfl) rfl (lv_at hl 0 rfl) ?_
    refine lv_iload_n G.hx G.hb (dcs_get dec_X11_quiet_0 5 rfl) rfl (lv_at hl 2 rfl) ?_
    obtain ⟨v12, h11, hf⟩ := cB_some hf
    refine a_i (k_V (As := [.int l2]) (rest := []) cls11 lb_X11_isHill lv_X11_isHill q_686 (C_X11_isHill G.2.2.1 a0 l2 σ h11 ok_a0) ⟨(Nat.le_of_ble_eq_true rfl), (Nat.le_of_ble_eq_true rfl)⟩ G w k_a0.1 k_a0.2 rfl rfl hl.1 (Nat.le_of_ble_eq_true rfl) (dcs_get dec_X11_quiet_0 6 rfl) ⟨Nat.le_refl _, Nat.le_refl _⟩) G w (fun H locs w => ?_)
    refine lv_if_eq (tgt := 37) G.hx G.hb (dcs_get dec_X11_quiet_0 7 rfl) (by decide) (fun hc => ?_) (fun hc => ?_)
    · rw [if_pos hc] at hf
      exact B_X11_quiet_37  σ G hm  hf  w (lv_sub hl [] rfl)
    · rw [if_neg hc] at hf
      refine lv_iload_n G.hx G.hb (dcs_get dec_X11_quiet_0 8 rfl) rfl (lv_at hl 3 rfl) ?_
      refine lv_if_lt (tgt := 37) G.hx G.hb (dcs_get dec_X11_quiet_0 9 rfl) (by decide) (fun hc => ?_) (fun hc => ?_)
      · rw [if_pos hc] at hf
        exact B_X11_quiet_37  σ G hm  hf  w (lv_sub hl [] rfl)
      · rw [if_neg hc] at hf
        refine lv_iload_n G.hx G.hb (dcs_get dec_X11_quiet_0 10 rfl) rfl (lv_at hl 3 rfl) ?_
        refine lv_iconst (v := (1 : Int32)) G.hx G.hb (dcs_get dec_X11_quiet_0 11 rfl) (by decide) ?_
        refine lv_icmp_gt (tgt := 37) G.hx G.hb (dcs_get dec_X11_quiet_0 12 rfl) (by decide) (fun hc => ?_) (fun hc => ?_)
        · rw [if_pos hc] at hf
          exact B_X11_quiet_37  σ G hm  hf  w (lv_sub hl [] rfl)
        · rw [if_neg hc] at hf
          refine lv_aload_n G.hx G.hb (dcs_get dec_X11_quiet_0 13 rfl) rfl (lv_at hl 0 rfl) ?_
          obtain ⟨z13, e_z13, ok_z13, hf⟩ := cR_some hf
          have k_z13 := okr_in ok_z13
          refine r_getr (k := 5) cls11 fi_11_5.1 fi_11_5.2 q_396 G w k_a0.1 k_a0.2 e_z13 (dcs_get dec_X11_quiet_0 14 rfl) ?_
          refine lv_iload_n G.hx G.hb (dcs_get dec_X11_quiet_0 15 rfl) rfl (lv_at hl 2 rfl) ?_
          refine lv_iload_n G.hx G.hb (dcs_get dec_X11_quiet_0 16 rfl) rfl (lv_at hl 1 rfl) ?_
          obtain ⟨v15, h14, hf⟩ := cB_some hf
          refine a_i (k_VN (As := [.int l2, .int l1]) (rest := []) cls10 lb_X10_knows lv_X10_knows nm_724 (C_X10_knows G.2.2.1 z13 l2 l1 σ h14 ok_z13) ⟨(Nat.le_of_ble_eq_true rfl), (Nat.le_of_ble_eq_true rfl)⟩ G w k_z13.1 k_z13.2 rfl rfl hl.1 (Nat.le_of_ble_eq_true rfl) (dcs_get dec_X11_quiet_0 17 rfl) ⟨Nat.le_refl _, Nat.le_refl _⟩) G w (fun H locs w => ?_)
          refine lv_if_eq (tgt := 39) G.hx G.hb (dcs_get dec_X11_quiet_0 18 rfl) (by decide) (fun hc => ?_) (fun hc => ?_)
          · rw [if_pos hc] at hf
            refine lv_iconst (v := (1 : Int32)) G.hx G.hb (dcs_get dec_X11_quiet_0 21 rfl) (by decide) ?_
            refine lv_iload_n G.hx G.hb (dcs_get dec_X11_quiet_0 22 rfl) rfl (lv_at hl 2 rfl) ?_
            refine lv_iload_n G.hx G.hb (dcs_get dec_X11_quiet_0 23 rfl) rfl (lv_at hl 1 rfl) ?_
            obtain ⟨v17, h16, hf⟩ := cB_some hf
            refine a_i (k_S (As := [.int l2, .int l1]) (rest := [.int (1 : Int32)]) lb_X11_pairOf q_389 q_728 (C_X11_pairOf G.2.2.1 l2 l1 σ h16 ) ⟨(Nat.le_of_ble_eq_true rfl), (Nat.le_of_ble_eq_true rfl)⟩ G w rfl rfl hl.1 (Nat.le_of_ble_eq_true rfl) (dcs_get dec_X11_quiet_0 24 rfl) ⟨Nat.le_refl _, Nat.le_refl _⟩) G w (fun H locs w => ?_)
            refine lv_ishl G.hx G.hb (dcs_get dec_X11_quiet_0 25 rfl) ?_
            obtain ⟨v18, e_v18, hf⟩ := cL_some hf
            refine r_topi e_v18 ?_
            refine lv_istore (lv' := [(4, .int v18), (0, .ref (ad a0)), (1, .int l1), (2, .int l2), (3, .int l3)]) G.hx G.hb (dcs_get dec_X11_quiet_0 26 rfl) hl (by decide) rfl (fun ls hl => ?_)
            refine lv_bipush (v := (-2 : Int32)) G.hx G.hb (dcs_get dec_X11_quiet_0 27 rfl) (by decide) ?_
            refine lv_istore (lv' := [(5, .int (-2 : Int32)), (4, .int v18), (0, .ref (ad a0)), (1, .int l1), (2, .int l2), (3, .int l3)]) G.hx G.hb (dcs_get dec_X11_quiet_0 28 rfl) hl (by decide) rfl (fun ls hl => ?_)
            refine lv_aload_n G.hx G.hb (dcs_get dec_X11_quiet_0 29 rfl) rfl (lv_at hl 2 rfl) ?_
            refine lv_iload G.hx G.hb (dcs_get dec_X11_quiet_0 30 rfl) (lv_at hl 1 rfl) ?_
            refine lv_aload_n G.hx G.hb (dcs_get dec_X11_quiet_0 31 rfl) rfl (lv_at hl 2 rfl) ?_
            obtain ⟨z19, e_z19, ok_z19, hf⟩ := cR_some hf
            have k_z19 := okr_in ok_z19
            refine r_getr (k := 1) cls11 fi_11_1.1 fi_11_1.2 q_392 G w k_a0.1 k_a0.2 e_z19 (dcs_get dec_X11_quiet_0 32 rfl) ?_
            refine r_getiN (k := 8) cls7 fi_7_8.1 fi_7_8.2 nf_120 G w k_z19.1 k_z19.2 (dcs_get dec_X11_quiet_0 33 rfl) ?_
            refine lv_iconst (v := (-1 : Int32)) G.hx G.hb (dcs_get dec_X11_quiet_0 34 rfl) (by decide) ?_
            obtain ⟨v21, σ22, h20, hf⟩ := cC_some hf
            refine a_i (k_V (As := [.int v18, .int (σ.1 z19 8), .int (-1 : Int32)]) (rest := []) cls11 lb_X11_daysTill lv_X11_daysTill q_835 (C_X11_daysTill G.2.2.1 a0 v18 (σ.1 z19 8) (-1 : Int32) σ h20 ok_a0) ⟨(Nat.le_of_ble_eq_true rfl), (Nat.le_of_ble_eq_true rfl)⟩ G w k_a0.1 k_a0.2 rfl rfl hl.1 (Nat.le_of_ble_eq_true rfl) (dcs_get dec_X11_quiet_0 35 rfl) ⟨Nat.le_refl _, Nat.le_refl _⟩) G w (fun H locs w => ?_)
            refine lv_istore (lv' := [(6, .int v21), (5, .int (-2 : Int32)), (4, .int v18), (0, .ref (ad a0)), (1, .int l1), (2, .int l2), (3, .int l3)]) G.hx G.hb (dcs_get dec_X11_quiet_0 36 rfl) hl (by decide) rfl (fun ls hl => ?_)
            refine lv_iconst (v := (0 : Int32)) G.hx G.hb (dcs_get dec_X11_quiet_0 37 rfl) (by decide) ?_
            refine lv_istore (lv' := [(7, .int (0 : Int32)), (6, .int v21), (5, .int (-2 : Int32)), (4, .int v18), (0, .ref (ad a0)), (1, .int l1), (2, .int l2), (3, .int l3)]) G.hx G.hb (dcs_get dec_X11_quiet_0 38 rfl) hl (by decide) rfl (fun ls hl => ?_)
            exact B_X11_quiet_71 a0 l3 v18 (-2 : Int32) v21 (0 : Int32) σ22 G hm ok_a0 hf  w (lv_sub hl [4, 7, 3, 2, 1, 0] rfl)
          · rw [if_neg hc] at hf
            exact B_X11_quiet_37  σ G hm  hf  w (lv_sub hl [] rfl)
end
set_option maxRecDepth 100000 in
set_option maxHeartbeats 4000000 in
theorem C_X11_quiet {l : Launch} {D : va_G} {ay : Nat → ClassId} {ad : Nat → Nat} (hi : hInj NC ad) (a0 : Nat) (l1 : Int32) (l2 : Int32) (l3 : Int32) (σ : hSt) {r0 : Int32} {σ0 : hSt} (hf : F_X11_quiet a0 l1 l2 l3 σ = some (r0, σ0)) (ok_a0 : okr kC NC 11 a0 = true) : hM l D ay kC NC ad yX11_quiet cX11_quiet 9 ((some .int)) (rmK 7 172) [.ref (ad a0), .int l1, .int l2, .int l3] σ (cI D ay kC NC ad r0 σ0) := by
  refine hM_in (by decide) hi (Nat.le_of_ble_eq_true rfl) ?_
  intro p e s m below meth c G hm w ls hl
  exact B_X11_quiet_0 a0 l1 l2 l3 σ G hm ok_a0 hf w (lv_sub hl [0, 1, 2, 3] rfl)

/-! HillDrums.soonest(II)I -/
def DL_X11_soonest_0 : List (Nat × Instr × Nat) := [(0, .aload_n 0, 1), (1, .iload_n 1, 1), (2, .invokevirtual 128, 3), (5, .ifCond .eq 11, 3), (8, .aload_n 0, 1), (9, .iload_n 2, 1), (10, .invokevirtual 120, 3), (13, .ifCond .ne 5, 3), (16, .iconst (-1), 1), (17, .ireturn, 1), (18, .aload_n 0, 1), (19, .getfield 73, 3), (22, .aload_n 0, 1), (23, .getfield 19, 3), (26, .aload_n 0, 1), (27, .getfield 42, 3), (30, .iload_n 1, 1), (31, .iconst 1, 1), (32, .iload_n 2, 1), (33, .ishl, 1), (34, .invokevirtual 232, 3), (37, .ireturn, 1)]
set_option maxRecDepth 100000 in
theorem dec_X11_soonest_0 : dcs cX11_soonest DL_X11_soonest_0 = true := by decide +kernel
theorem lb_X11_soonest : lkB yX11_soonest cX11_soonest 3 ((some .int)) 2 := ⟨q_866, q_1, ⟨by decide, by decide⟩, by decide +kernel⟩
theorem lv_X11_soonest : lkV yX11_soonest := ⟨q_864, q_865⟩
def F_X11_soonest_16  (σ : hSt) : Option (Int32 × hSt) :=
some (((-1 : Int32), σ))
def F_X11_soonest (a0 : Nat) (l1 : Int32) (l2 : Int32) (σ : hSt) : Option (Int32 × hSt) :=
(F_X11_isNews a0 l1 σ).bind fun v2 =>
if v2 = 0 then (
F_X11_soonest_16  σ) else (
(F_X11_isHill a0 l2 σ).bind fun v4 =>
if v4 = 0 then (
F_X11_soonest_16  σ) else (
cR (σ.2.2 a0 11) (okr kC NC 3) fun z5 =>
cR (σ.2.2 a0 1) (okr kC NC 7) fun z6 =>
cR (σ.2.2 a0 5) (okr kC NC 10) fun z7 =>
cC (F_X3_fewestDays z5 z6 z7 l1 ((1 : Int32) <<< (l2 &&& 31)) σ) fun v9 σ10 =>
some ((v9, σ10))))
section
variable {p : Program} {l : Launch} {e : Env} {s : State} {m : MethodId} {args : Array Value} {below : List Frame} {meth : Method} {c : Code} {D : va_G} {ay : Nat → ClassId} {ad : Nat → Nat}
set_option maxRecDepth 100000 in
set_option maxHeartbeats 4000000 in
theorem B_X11_soonest_16 {H : Heap} {locs : List Loc} {ls : Array Slot} {r0 : Int32} {σ0 : hSt}  (σ : hSt) (G : Gx p m c cX11_soonest 3 s args RX11 D ay NC ad (aN NC ad)) (hm : meth.sig.returnType = (some .int) ∧ meth.locks = false)  (hf : F_X11_soonest_16  σ = some (r0, σ0))  (w : Wd D ay kC NC ad (aN NC ad) s σ H locs) (hl : lv_has ls 3 []) : W p l e (rmK 6 152) s m args below meth c H locs 0 0 (MQ below (cI D ay kC NC ad r0 σ0) args s 0 0 (aN NC ad)) (F0 m 16 ls []) := by
  unfold F_X11_soonest_16 at hf
  refine lv_iconst (v := (-1 : Int32)) G.hx G.hb (dcs_get dec_X11_soonest_0 8 rfl) (by decide) ?_
  have e9 := Option.some.inj hf
  exact r_iret G w hm (congrArg Prod.fst e9) (congrArg Prod.snd e9) (dcs_get dec_X11_soonest_0 9 rfl)
set_option maxRecDepth 100000 in
set_option maxHeartbeats 4000000 in
theorem B_X11_soonest_0 {H : Heap} {locs : List Loc} {ls : Array Slot} {r0 : Int32} {σ0 : hSt} (a0 : Nat) (l1 : Int32) (l2 : Int32) (σ : hSt) (G : Gx p m c cX11_soonest 3 s args RX11 D ay NC ad (aN NC ad)) (hm : meth.sig.returnType = (some .int) ∧ meth.locks = false) (ok_a0 : okr kC NC 11 a0 = true) (hf : F_X11_soonest a0 l1 l2 σ = some (r0, σ0))  (w : Wd D ay kC NC ad (aN NC ad) s σ H locs) (hl : lv_has ls 3 [(0, .ref (ad a0)), (1, .int l1), (2, .int l2)]) : W p l e (rmK 6 152) s m args below meth c H locs 0 0 (MQ below (cI D ay kC NC ad r0 σ0) args s 0 0 (aN NC ad)) (F0 m 0 ls []) := by
  have k_a0 := okr_in ok_a0
  unfold F_X11_soonest at hf
  refine lv_aload_n G.hx G.hb (dcs_get dec_X11_soonest_0 0 rfl) rfl (lv_at hl 0 rfl) ?_
  refine lv_iload_n G.hx G.hb (dcs_get dec_X11_soonest_0 1 rfl) rfl (lv_at hl 1 rfl) ?_
  obtain ⟨v2, h1, hf⟩ := cB_some hf
  refine a_i (k_V (As := [.int l1]) (rest := []) cls11 lb_X11_isNews lv_X11_isNews q_720 (C_X11_isNews G.2.2.1 a0 l1 σ h1 ok_a0) ⟨(Nat.le_of_ble_eq_true rfl), (Nat.le_of_ble_eq_true rfl)⟩ G w k_a0.1 k_a0.2 rfl rfl hl.1 (Nat.le_of_ble_eq_true rfl) (dcs_get dec_X11_soonest_0 2 rfl) ⟨Nat.le_refl _, Nat.le_refl _⟩) G w (fun H locs w => ?_)
  refine lv_if_eq (tgt := 16) G.hx G.hb (dcs_get dec_X11_soonest_0 3 rfl) (by decide) (fun hc => ?_) (fun hc => ?_)
  · rw [if_pos hc] at hf
    exact B_X11_soonest_16  σ G hm  hf  w (lv_sub hl [] rfl)
  · rw [if_neg hc] at hf
    refine lv_aload_n G.hx G.hb (dcs_get dec_X11_soonest_0 4 rfl) rfl (lv_at hl 0 rfl) ?_
    refine lv_iload_n G.hx G.hb (dcs_get dec_X11_soonest_0 5 rfl) rfl (lv_at hl 2 rfl) ?_
    obtain ⟨v4, h3, hf⟩ := cB_some hf
    refine a_i (k_V (As := [.int l2]) (rest := []) cls11 lb_X11_isHill lv_X11_isHill q_686 (C_X11_isHill G.2.2.1 a0 l2 σ h3 ok_a0) ⟨(Nat.le_of_ble_eq_true rfl), (Nat.le_of_ble_eq_true rfl)⟩ G w k_a0.1 k_a0.2 rfl rfl hl.1 (Nat.le_of_ble_eq_true rfl) (dcs_get dec_X11_soonest_0 6 rfl) ⟨Nat.le_refl _, Nat.le_refl _⟩) G w (fun H locs w => ?_)
    refine lv_if_ne (tgt := 18) G.hx G.hb (dcs_get dec_X11_soonest_0 7 rfl) (by decide) (fun hc => ?_) (fun hc => ?_)
    · rw [if_neg hc] at hf
      refine lv_aload_n G.hx G.hb (dcs_get dec_X11_soonest_0 10 rfl) rfl (lv_at hl 0 rfl) ?_
      obtain ⟨z5, e_z5, ok_z5, hf⟩ := cR_some hf
      have k_z5 := okr_in ok_z5
      refine r_getr (k := 11) cls11 fi_11_11.1 fi_11_11.2 q_402 G w k_a0.1 k_a0.2 e_z5 (dcs_get dec_X11_soonest_0 11 rfl) ?_
      refine lv_aload_n G.hx G.hb (dcs_get dec_X11_soonest_0 12 rfl) rfl (lv_at hl 0 rfl) ?_
      obtain ⟨z6, e_z6, ok_z6, hf⟩ := cR_some hf
      have k_z6 := okr_in ok_z6
      refine r_getr (k := 1) cls11 fi_11_1.1 fi_11_1.2 q_392 G w k_a0.1 k_a0.2 e_z6 (dcs_get dec_X11_soonest_0 13 rfl) ?_
      refine lv_aload_n G.hx G.hb (dcs_get dec_X11_soonest_0 14 rfl) rfl (lv_at hl 0 rfl) ?_
      obtain ⟨z7, e_z7, ok_z7, hf⟩ := cR_some hf
      have k_z7 := okr_in ok_z7
      refine r_getr (k := 5) cls11 fi_11_5.1 fi_11_5.2 q_396 G w k_a0.1 k_a0.2 e_z7 (dcs_get dec_X11_soonest_0 15 rfl) ?_
      refine lv_iload_n G.hx G.hb (dcs_get dec_X11_soonest_0 16 rfl) rfl (lv_at hl 1 rfl) ?_
      refine lv_iconst (v := (1 : Int32)) G.hx G.hb (dcs_get dec_X11_soonest_0 17 rfl) (by decide) ?_
      refine lv_iload_n G.hx G.hb (dcs_get dec_X11_soonest_0 18 rfl) rfl (lv_at hl 2 rfl) ?_
      refine lv_ishl G.hx G.hb (dcs_get dec_X11_soonest_0 19 rfl) ?_
      obtain ⟨v9, σ10, h8, hf⟩ := cC_some hf
      refine a_i (k_VN (As := [.ref (ad z6), .ref (ad z7), .int l1, .int ((1 : Int32) <<< (l2 &&& 31))]) (rest := []) cls3 lb_X3_fewestDays lv_X3_fewestDays nm_867 (C_X3_fewestDays G.2.2.1 z5 z6 z7 l1 ((1 : Int32) <<< (l2 &&& 31)) σ h8 ok_z5 ok_z6 ok_z7) ⟨(Nat.le_of_ble_eq_true rfl), (Nat.le_of_ble_eq_true rfl)⟩ G w k_z5.1 k_z5.2 rfl rfl hl.1 (Nat.le_of_ble_eq_true rfl) (dcs_get dec_X11_soonest_0 20 rfl) ⟨Nat.le_refl _, Nat.le_refl _⟩) G w (fun H locs w => ?_)
      have e9 := Option.some.inj hf
      exact r_iret G w hm (congrArg Prod.fst e9) (congrArg Prod.snd e9) (dcs_get dec_X11_soonest_0 21 rfl)
    · rw [if_pos hc] at hf
      exact B_X11_soonest_16  σ G hm  hf  w (lv_sub hl [] rfl)
end
set_option maxRecDepth 100000 in
set_option maxHeartbeats 4000000 in
theorem C_X11_soonest {l : Launch} {D : va_G} {ay : Nat → ClassId} {ad : Nat → Nat} (hi : hInj NC ad) (a0 : Nat) (l1 : Int32) (l2 : Int32) (σ : hSt) {r0 : Int32} {σ0 : hSt} (hf : F_X11_soonest a0 l1 l2 σ = some (r0, σ0)) (ok_a0 : okr kC NC 11 a0 = true) : hM l D ay kC NC ad yX11_soonest cX11_soonest 3 ((some .int)) (rmK 6 152) [.ref (ad a0), .int l1, .int l2] σ (cI D ay kC NC ad r0 σ0) := by
  refine hM_in (by decide) hi (Nat.le_of_ble_eq_true rfl) ?_
  intro p e s m below meth c G hm w ls hl
  exact B_X11_soonest_0 a0 l1 l2 σ G hm ok_a0 hf w (lv_sub hl [0, 1, 2] rfl)

/-! HillDrums.all(I)I -/
def DL_X11_all_0 : List (Nat × Instr × Nat) := [(0, .aload_n 0, 1), (1, .iload_n 1, 1), (2, .invokevirtual 128, 3), (5, .ifCond .eq 29, 3), (8, .aload_n 0, 1), (9, .getfield 73, 3), (12, .aload_n 0, 1), (13, .getfield 19, 3), (16, .aload_n 0, 1), (17, .getfield 42, 3), (20, .iload_n 1, 1), (21, .aload_n 0, 1), (22, .getfield 19, 3), (25, .invokevirtual 226, 3), (28, .invokevirtual 232, 3), (31, .goto 4, 3), (34, .iconst (-1), 1), (35, .ireturn, 1)]
set_option maxRecDepth 100000 in
theorem dec_X11_all_0 : dcs cX11_all DL_X11_all_0 = true := by decide +kernel
theorem lb_X11_all : lkB yX11_all cX11_all 2 ((some .int)) 1 := ⟨q_893, q_1, ⟨by decide, by decide⟩, by decide +kernel⟩
theorem lv_X11_all : lkV yX11_all := ⟨q_891, q_892⟩
def F_X11_all_35 (s0 : Int32) (σ : hSt) : Option (Int32 × hSt) :=
some ((s0, σ))
def F_X11_all (a0 : Nat) (l1 : Int32) (σ : hSt) : Option (Int32 × hSt) :=
(F_X11_isNews a0 l1 σ).bind fun v2 =>
if v2 = 0 then (
F_X11_all_35 (-1 : Int32) σ) else (
cR (σ.2.2 a0 11) (okr kC NC 3) fun z3 =>
cR (σ.2.2 a0 1) (okr kC NC 7) fun z4 =>
cR (σ.2.2 a0 5) (okr kC NC 10) fun z5 =>
cR (σ.2.2 a0 1) (okr kC NC 7) fun z6 =>
(F_X7_allHills z6 σ).bind fun v8 =>
cC (F_X3_fewestDays z3 z4 z5 l1 v8 σ) fun v10 σ11 =>
F_X11_all_35 v10 σ11)
section
variable {p : Program} {l : Launch} {e : Env} {s : State} {m : MethodId} {args : Array Value} {below : List Frame} {meth : Method} {c : Code} {D : va_G} {ay : Nat → ClassId} {ad : Nat → Nat}
set_option maxRecDepth 100000 in
set_option maxHeartbeats 4000000 in
theorem B_X11_all_35 {H : Heap} {locs : List Loc} {ls : Array Slot} {r0 : Int32} {σ0 : hSt} (s0 : Int32) (σ : hSt) (G : Gx p m c cX11_all 2 s args RX11 D ay NC ad (aN NC ad)) (hm : meth.sig.returnType = (some .int) ∧ meth.locks = false)  (hf : F_X11_all_35 s0 σ = some (r0, σ0))  (w : Wd D ay kC NC ad (aN NC ad) s σ H locs) (hl : lv_has ls 2 []) : W p l e (rmK 6 152) s m args below meth c H locs 0 0 (MQ below (cI D ay kC NC ad r0 σ0) args s 0 0 (aN NC ad)) (F0 m 35 ls [.int s0]) := by
  unfold F_X11_all_35 at hf
  have e9 := Option.some.inj hf
  exact r_iret G w hm (congrArg Prod.fst e9) (congrArg Prod.snd e9) (dcs_get dec_X11_all_0 17 rfl)
set_option maxRecDepth 100000 in
set_option maxHeartbeats 4000000 in
theorem B_X11_all_0 {H : Heap} {locs : List Loc} {ls : Array Slot} {r0 : Int32} {σ0 : hSt} (a0 : Nat) (l1 : Int32) (σ : hSt) (G : Gx p m c cX11_all 2 s args RX11 D ay NC ad (aN NC ad)) (hm : meth.sig.returnType = (some .int) ∧ meth.locks = false) (ok_a0 : okr kC NC 11 a0 = true) (hf : F_X11_all a0 l1 σ = some (r0, σ0))  (w : Wd D ay kC NC ad (aN NC ad) s σ H locs) (hl : lv_has ls 2 [(0, .ref (ad a0)), (1, .int l1)]) : W p l e (rmK 6 152) s m args below meth c H locs 0 0 (MQ below (cI D ay kC NC ad r0 σ0) args s 0 0 (aN NC ad)) (F0 m 0 ls []) := by
  have k_a0 := okr_in ok_a0
  unfold F_X11_all at hf
  refine lv_aload_n G.hx G.hb (dcs_get dec_X11_all_0 0 rfl) rfl (lv_at hl 0 rfl) ?_
  refine lv_iload_n G.hx G.hb (dcs_get dec_X11_all_0 1 rfl) rfl (lv_at hl 1 rfl) ?_
  obtain ⟨v2, h1, hf⟩ := cB_some hf
  refine a_i (k_V (As := [.int l1]) (rest := []) cls11 lb_X11_isNews lv_X11_isNews q_720 (C_X11_isNews G.2.2.1 a0 l1 σ h1 ok_a0) ⟨(Nat.le_of_ble_eq_true rfl), (Nat.le_of_ble_eq_true rfl)⟩ G w k_a0.1 k_a0.2 rfl rfl hl.1 (Nat.le_of_ble_eq_true rfl) (dcs_get dec_X11_all_0 2 rfl) ⟨Nat.le_refl _, Nat.le_refl _⟩) G w (fun H locs w => ?_)
  refine lv_if_eq (tgt := 34) G.hx G.hb (dcs_get dec_X11_all_0 3 rfl) (by decide) (fun hc => ?_) (fun hc => ?_)
  · rw [if_pos hc] at hf
    refine lv_iconst (v := (-1 : Int32)) G.hx G.hb (dcs_get dec_X11_all_0 16 rfl) (by decide) ?_
    exact B_X11_all_35 (-1 : Int32) σ G hm  hf  w (lv_sub hl [] rfl)
  · rw [if_neg hc] at hf
    refine lv_aload_n G.hx G.hb (dcs_get dec_X11_all_0 4 rfl) rfl (lv_at hl 0 rfl) ?_
    obtain ⟨z3, e_z3, ok_z3, hf⟩ := cR_some hf
    have k_z3 := okr_in ok_z3
    refine r_getr (k := 11) cls11 fi_11_11.1 fi_11_11.2 q_402 G w k_a0.1 k_a0.2 e_z3 (dcs_get dec_X11_all_0 5 rfl) ?_
    refine lv_aload_n G.hx G.hb (dcs_get dec_X11_all_0 6 rfl) rfl (lv_at hl 0 rfl) ?_
    obtain ⟨z4, e_z4, ok_z4, hf⟩ := cR_some hf
    have k_z4 := okr_in ok_z4
    refine r_getr (k := 1) cls11 fi_11_1.1 fi_11_1.2 q_392 G w k_a0.1 k_a0.2 e_z4 (dcs_get dec_X11_all_0 7 rfl) ?_
    refine lv_aload_n G.hx G.hb (dcs_get dec_X11_all_0 8 rfl) rfl (lv_at hl 0 rfl) ?_
    obtain ⟨z5, e_z5, ok_z5, hf⟩ := cR_some hf
    have k_z5 := okr_in ok_z5
    refine r_getr (k := 5) cls11 fi_11_5.1 fi_11_5.2 q_396 G w k_a0.1 k_a0.2 e_z5 (dcs_get dec_X11_all_0 9 rfl) ?_
    refine lv_iload_n G.hx G.hb (dcs_get dec_X11_all_0 10 rfl) rfl (lv_at hl 1 rfl) ?_
    refine lv_aload_n G.hx G.hb (dcs_get dec_X11_all_0 11 rfl) rfl (lv_at hl 0 rfl) ?_
    obtain ⟨z6, e_z6, ok_z6, hf⟩ := cR_some hf
    have k_z6 := okr_in ok_z6
    refine r_getr (k := 1) cls11 fi_11_1.1 fi_11_1.2 q_392 G w k_a0.1 k_a0.2 e_z6 (dcs_get dec_X11_all_0 12 rfl) ?_
    obtain ⟨v8, h7, hf⟩ := cB_some hf
    refine a_i (k_VN (As := []) (rest := [.int l1, .ref (ad z5), .ref (ad z4), .ref (ad z3)]) cls7 lb_X7_allHills lv_X7_allHills nm_852 (C_X7_allHills G.2.2.1 z6 σ h7 ok_z6) ⟨(Nat.le_of_ble_eq_true rfl), (Nat.le_of_ble_eq_true rfl)⟩ G w k_z6.1 k_z6.2 rfl rfl hl.1 (Nat.le_of_ble_eq_true rfl) (dcs_get dec_X11_all_0 13 rfl) ⟨Nat.le_refl _, Nat.le_refl _⟩) G w (fun H locs w => ?_)
    obtain ⟨v10, σ11, h9, hf⟩ := cC_some hf
    refine a_i (k_VN (As := [.ref (ad z4), .ref (ad z5), .int l1, .int v8]) (rest := []) cls3 lb_X3_fewestDays lv_X3_fewestDays nm_867 (C_X3_fewestDays G.2.2.1 z3 z4 z5 l1 v8 σ h9 ok_z3 ok_z4 ok_z5) ⟨(Nat.le_of_ble_eq_true rfl), (Nat.le_of_ble_eq_true rfl)⟩ G w k_z3.1 k_z3.2 rfl rfl hl.1 (Nat.le_of_ble_eq_true rfl) (dcs_get dec_X11_all_0 14 rfl) ⟨Nat.le_refl _, Nat.le_refl _⟩) G w (fun H locs w => ?_)
    refine lv_goto (tgt := 35) G.hx G.hb (dcs_get dec_X11_all_0 15 rfl) (by decide) ?_
    exact B_X11_all_35 v10 σ11 G hm  hf  w (lv_sub hl [] rfl)
end
set_option maxRecDepth 100000 in
set_option maxHeartbeats 4000000 in
theorem C_X11_all {l : Launch} {D : va_G} {ay : Nat → ClassId} {ad : Nat → Nat} (hi : hInj NC ad) (a0 : Nat) (l1 : Int32) (σ : hSt) {r0 : Int32} {σ0 : hSt} (hf : F_X11_all a0 l1 σ = some (r0, σ0)) (ok_a0 : okr kC NC 11 a0 = true) : hM l D ay kC NC ad yX11_all cX11_all 2 ((some .int)) (rmK 6 152) [.ref (ad a0), .int l1] σ (cI D ay kC NC ad r0 σ0) := by
  refine hM_in (by decide) hi (Nat.le_of_ble_eq_true rfl) ?_
  intro p e s m below meth c G hm w ls hl
  exact B_X11_all_0 a0 l1 σ G hm ok_a0 hf w (lv_sub hl [0, 1] rfl)

/-! HillDrums.drums(I)I -/
def DL_X11_drums_0 : List (Nat × Instr × Nat) := [(0, .aload_n 0, 1), (1, .iload_n 1, 1), (2, .invokevirtual 128, 3), (5, .ifCond .eq 22, 3), (8, .aload_n 0, 1), (9, .getfield 73, 3), (12, .aload_n 0, 1), (13, .getfield 19, 3), (16, .aload_n 0, 1), (17, .getfield 42, 3), (20, .iload_n 1, 1), (21, .invokevirtual 236, 3), (24, .goto 4, 3), (27, .iconst (-1), 1), (28, .ireturn, 1)]
set_option maxRecDepth 100000 in
theorem dec_X11_drums_0 : dcs cX11_drums DL_X11_drums_0 = true := by decide +kernel
theorem lb_X11_drums : lkB yX11_drums cX11_drums 2 ((some .int)) 1 := ⟨q_897, q_1, ⟨by decide, by decide⟩, by decide +kernel⟩
theorem lv_X11_drums : lkV yX11_drums := ⟨q_895, q_896⟩
def F_X11_drums_28 (s0 : Int32) (σ : hSt) : Option (Int32 × hSt) :=
some ((s0, σ))
def F_X11_drums (a0 : Nat) (l1 : Int32) (σ : hSt) : Option (Int32 × hSt) :=
(F_X11_isNews a0 l1 σ).bind fun v2 =>
if v2 = 0 then (
F_X11_drums_28 (-1 : Int32) σ) else (
cR (σ.2.2 a0 11) (okr kC NC 3) fun z3 =>
cR (σ.2.2 a0 1) (okr kC NC 7) fun z4 =>
cR (σ.2.2 a0 5) (okr kC NC 10) fun z5 =>
cC (F_X3_fewestDrums z3 z4 z5 l1 σ) fun v7 σ8 =>
F_X11_drums_28 v7 σ8)
section
variable {p : Program} {l : Launch} {e : Env} {s : State} {m : MethodId} {args : Array Value} {below : List Frame} {meth : Method} {c : Code} {D : va_G} {ay : Nat → ClassId} {ad : Nat → Nat}
set_option maxRecDepth 100000 in
set_option maxHeartbeats 4000000 in
theorem B_X11_drums_28 {H : Heap} {locs : List Loc} {ls : Array Slot} {r0 : Int32} {σ0 : hSt} (s0 : Int32) (σ : hSt) (G : Gx p m c cX11_drums 2 s args RX11 D ay NC ad (aN NC ad)) (hm : meth.sig.returnType = (some .int) ∧ meth.locks = false)  (hf : F_X11_drums_28 s0 σ = some (r0, σ0))  (w : Wd D ay kC NC ad (aN NC ad) s σ H locs) (hl : lv_has ls 2 []) : W p l e (rmK 6 149) s m args below meth c H locs 0 0 (MQ below (cI D ay kC NC ad r0 σ0) args s 0 0 (aN NC ad)) (F0 m 28 ls [.int s0]) := by
  unfold F_X11_drums_28 at hf
  have e9 := Option.some.inj hf
  exact r_iret G w hm (congrArg Prod.fst e9) (congrArg Prod.snd e9) (dcs_get dec_X11_drums_0 14 rfl)
set_option maxRecDepth 100000 in
set_option maxHeartbeats 4000000 in
theorem B_X11_drums_0 {H : Heap} {locs : List Loc} {ls : Array Slot} {r0 : Int32} {σ0 : hSt} (a0 : Nat) (l1 : Int32) (σ : hSt) (G : Gx p m c cX11_drums 2 s args RX11 D ay NC ad (aN NC ad)) (hm : meth.sig.returnType = (some .int) ∧ meth.locks = false) (ok_a0 : okr kC NC 11 a0 = true) (hf : F_X11_drums a0 l1 σ = some (r0, σ0))  (w : Wd D ay kC NC ad (aN NC ad) s σ H locs) (hl : lv_has ls 2 [(0, .ref (ad a0)), (1, .int l1)]) : W p l e (rmK 6 149) s m args below meth c H locs 0 0 (MQ below (cI D ay kC NC ad r0 σ0) args s 0 0 (aN NC ad)) (F0 m 0 ls []) := by
  have k_a0 := okr_in ok_a0
  unfold F_X11_drums at hf
  refine lv_aload_n G.hx G.hb (dcs_get dec_X11_drums_0 0 rfl) rfl (lv_at hl 0 rfl) ?_
  refine lv_iload_n G.hx G.hb (dcs_get dec_X11_drums_0 1 rfl) rfl (lv_at hl 1 rfl) ?_
  obtain ⟨v2, h1, hf⟩ := cB_some hf
  refine a_i (k_V (As := [.int l1]) (rest := []) cls11 lb_X11_isNews lv_X11_isNews q_720 (C_X11_isNews G.2.2.1 a0 l1 σ h1 ok_a0) ⟨(Nat.le_of_ble_eq_true rfl), (Nat.le_of_ble_eq_true rfl)⟩ G w k_a0.1 k_a0.2 rfl rfl hl.1 (Nat.le_of_ble_eq_true rfl) (dcs_get dec_X11_drums_0 2 rfl) ⟨Nat.le_refl _, Nat.le_refl _⟩) G w (fun H locs w => ?_)
  refine lv_if_eq (tgt := 27) G.hx G.hb (dcs_get dec_X11_drums_0 3 rfl) (by decide) (fun hc => ?_) (fun hc => ?_)
  · rw [if_pos hc] at hf
    refine lv_iconst (v := (-1 : Int32)) G.hx G.hb (dcs_get dec_X11_drums_0 13 rfl) (by decide) ?_
    exact B_X11_drums_28 (-1 : Int32) σ G hm  hf  w (lv_sub hl [] rfl)
  · rw [if_neg hc] at hf
    refine lv_aload_n G.hx G.hb (dcs_get dec_X11_drums_0 4 rfl) rfl (lv_at hl 0 rfl) ?_
    obtain ⟨z3, e_z3, ok_z3, hf⟩ := cR_some hf
    have k_z3 := okr_in ok_z3
    refine r_getr (k := 11) cls11 fi_11_11.1 fi_11_11.2 q_402 G w k_a0.1 k_a0.2 e_z3 (dcs_get dec_X11_drums_0 5 rfl) ?_
    refine lv_aload_n G.hx G.hb (dcs_get dec_X11_drums_0 6 rfl) rfl (lv_at hl 0 rfl) ?_
    obtain ⟨z4, e_z4, ok_z4, hf⟩ := cR_some hf
    have k_z4 := okr_in ok_z4
    refine r_getr (k := 1) cls11 fi_11_1.1 fi_11_1.2 q_392 G w k_a0.1 k_a0.2 e_z4 (dcs_get dec_X11_drums_0 7 rfl) ?_
    refine lv_aload_n G.hx G.hb (dcs_get dec_X11_drums_0 8 rfl) rfl (lv_at hl 0 rfl) ?_
    obtain ⟨z5, e_z5, ok_z5, hf⟩ := cR_some hf
    have k_z5 := okr_in ok_z5
    refine r_getr (k := 5) cls11 fi_11_5.1 fi_11_5.2 q_396 G w k_a0.1 k_a0.2 e_z5 (dcs_get dec_X11_drums_0 9 rfl) ?_
    refine lv_iload_n G.hx G.hb (dcs_get dec_X11_drums_0 10 rfl) rfl (lv_at hl 1 rfl) ?_
    obtain ⟨v7, σ8, h6, hf⟩ := cC_some hf
    refine a_i (k_VN (As := [.ref (ad z4), .ref (ad z5), .int l1]) (rest := []) cls3 lb_X3_fewestDrums lv_X3_fewestDrums nm_898 (C_X3_fewestDrums G.2.2.1 z3 z4 z5 l1 σ h6 ok_z3 ok_z4 ok_z5) ⟨(Nat.le_of_ble_eq_true rfl), (Nat.le_of_ble_eq_true rfl)⟩ G w k_z3.1 k_z3.2 rfl rfl hl.1 (Nat.le_of_ble_eq_true rfl) (dcs_get dec_X11_drums_0 11 rfl) ⟨Nat.le_refl _, Nat.le_refl _⟩) G w (fun H locs w => ?_)
    refine lv_goto (tgt := 28) G.hx G.hb (dcs_get dec_X11_drums_0 12 rfl) (by decide) ?_
    exact B_X11_drums_28 v7 σ8 G hm  hf  w (lv_sub hl [] rfl)
end
set_option maxRecDepth 100000 in
set_option maxHeartbeats 4000000 in
theorem C_X11_drums {l : Launch} {D : va_G} {ay : Nat → ClassId} {ad : Nat → Nat} (hi : hInj NC ad) (a0 : Nat) (l1 : Int32) (σ : hSt) {r0 : Int32} {σ0 : hSt} (hf : F_X11_drums a0 l1 σ = some (r0, σ0)) (ok_a0 : okr kC NC 11 a0 = true) : hM l D ay kC NC ad yX11_drums cX11_drums 2 ((some .int)) (rmK 6 149) [.ref (ad a0), .int l1] σ (cI D ay kC NC ad r0 σ0) := by
  refine hM_in (by decide) hi (Nat.le_of_ble_eq_true rfl) ?_
  intro p e s m below meth c G hm w ls hl
  exact B_X11_drums_0 a0 l1 σ G hm ok_a0 hf w (lv_sub hl [0, 1] rfl)

/-! HillDrums.loophole(III)I -/
def DL_X11_loophole_0 : List (Nat × Instr × Nat) := [(0, .aload_n 0, 1), (1, .iload_n 1, 1), (2, .invokevirtual 120, 3), (5, .ifCond .eq 36, 3), (8, .aload_n 0, 1), (9, .iload_n 2, 1), (10, .invokevirtual 120, 3), (13, .ifCond .eq 28, 3), (16, .iload_n 1, 1), (17, .iload_n 2, 1), (18, .if_icmp .eq 23, 3), (21, .aload_n 0, 1), (22, .iload_n 3, 1), (23, .invokevirtual 128, 3), (26, .ifCond .eq 15, 3), (29, .aload_n 0, 1), (30, .getfield 42, 3), (33, .iload_n 1, 1), (34, .iload_n 3, 1), (35, .invokevirtual 131, 3), (38, .ifCond .ne 5, 3), (41, .iconst (-1), 1), (42, .ireturn, 1), (43, .aload_n 0, 1), (44, .getfield 80, 3), (47, .aload_n 0, 1), (48, .getfield 19, 3), (51, .aload_n 0, 1), (52, .getfield 42, 3), (55, .iload_n 1, 1), (56, .iload_n 2, 1), (57, .iload_n 3, 1), (58, .invokevirtual 240, 3), (61, .aload_n 0, 1), (62, .getfield 80, 3), (65, .getfield 244, 3), (68, .ifCond .ne 8, 3), (71, .bipush (-2), 2), (73, .goto 10, 3), (76, .aload_n 0, 1)]
set_option maxRecDepth 100000 in
theorem dec_X11_loophole_0 : dcs cX11_loophole DL_X11_loophole_0 = true := by decide +kernel
def DL_X11_loophole_1 : List (Nat × Instr × Nat) := [(77, .getfield 80, 3), (80, .getfield 244, 3), (83, .ireturn, 1)]
set_option maxRecDepth 100000 in
theorem dec_X11_loophole_1 : dcs cX11_loophole DL_X11_loophole_1 = true := by decide +kernel
theorem lb_X11_loophole : lkB yX11_loophole cX11_loophole 4 ((some .int)) 3 := ⟨q_914, q_1, ⟨by decide, by decide⟩, by decide +kernel⟩
theorem lv_X11_loophole : lkV yX11_loophole := ⟨q_912, q_913⟩
def F_X11_loophole_41  (σ : hSt) : Option (Int32 × hSt) :=
some (((-1 : Int32), σ))
def F_X11_loophole_83 (s0 : Int32) (σ : hSt) : Option (Int32 × hSt) :=
some ((s0, σ))
def F_X11_loophole (a0 : Nat) (l1 : Int32) (l2 : Int32) (l3 : Int32) (σ : hSt) : Option (Int32 × hSt) :=
(F_X11_isHill a0 l1 σ).bind fun v2 =>
if v2 = 0 then (
F_X11_loophole_41  σ) else (
(F_X11_isHill a0 l2 σ).bind fun v4 =>
if v4 = 0 then (
F_X11_loophole_41  σ) else (
if l1 = l2 then (
F_X11_loophole_41  σ) else (
(F_X11_isNews a0 l3 σ).bind fun v6 =>
if v6 = 0 then (
F_X11_loophole_41  σ) else (
cR (σ.2.2 a0 5) (okr kC NC 10) fun z7 =>
(F_X10_knows z7 l1 l3 σ).bind fun v9 =>
if v9 = 0 then (
F_X11_loophole_41  σ) else (
cR (σ.2.2 a0 12) (okr kC NC 1) fun z10 =>
cR (σ.2.2 a0 1) (okr kC NC 7) fun z11 =>
cR (σ.2.2 a0 5) (okr kC NC 10) fun z12 =>
(F_X1_seek z10 z11 z12 l1 l2 l3 σ).bind fun σ14 =>
cR (σ14.2.2 a0 12) (okr kC NC 1) fun z15 =>
if (σ14.1 z15 1) = 0 then (
F_X11_loophole_83 (-2 : Int32) σ14) else (
cR (σ14.2.2 a0 12) (okr kC NC 1) fun z16 =>
F_X11_loophole_83 (σ14.1 z16 1) σ14))))))
section
variable {p : Program} {l : Launch} {e : Env} {s : State} {m : MethodId} {args : Array Value} {below : List Frame} {meth : Method} {c : Code} {D : va_G} {ay : Nat → ClassId} {ad : Nat → Nat}
set_option maxRecDepth 100000 in
set_option maxHeartbeats 4000000 in
theorem B_X11_loophole_41 {H : Heap} {locs : List Loc} {ls : Array Slot} {r0 : Int32} {σ0 : hSt}  (σ : hSt) (G : Gx p m c cX11_loophole 4 s args RX11 D ay NC ad (aN NC ad)) (hm : meth.sig.returnType = (some .int) ∧ meth.locks = false)  (hf : F_X11_loophole_41  σ = some (r0, σ0))  (w : Wd D ay kC NC ad (aN NC ad) s σ H locs) (hl : lv_has ls 4 []) : W p l e (rmK 6 145) s m args below meth c H locs 0 0 (MQ below (cI D ay kC NC ad r0 σ0) args s 0 0 (aN NC ad)) (F0 m 41 ls []) := by
  unfold F_X11_loophole_41 at hf
  refine lv_iconst (v := (-1 : Int32)) G.hx G.hb (dcs_get dec_X11_loophole_0 21 rfl) (by decide) ?_
  have e9 := Option.some.inj hf
  exact r_iret G w hm (congrArg Prod.fst e9) (congrArg Prod.snd e9) (dcs_get dec_X11_loophole_0 22 rfl)
set_option maxRecDepth 100000 in
set_option maxHeartbeats 4000000 in
theorem B_X11_loophole_83 {H : Heap} {locs : List Loc} {ls : Array Slot} {r0 : Int32} {σ0 : hSt} (s0 : Int32) (σ : hSt) (G : Gx p m c cX11_loophole 4 s args RX11 D ay NC ad (aN NC ad)) (hm : meth.sig.returnType = (some .int) ∧ meth.locks = false)  (hf : F_X11_loophole_83 s0 σ = some (r0, σ0))  (w : Wd D ay kC NC ad (aN NC ad) s σ H locs) (hl : lv_has ls 4 []) : W p l e (rmK 6 145) s m args below meth c H locs 0 0 (MQ below (cI D ay kC NC ad r0 σ0) args s 0 0 (aN NC ad)) (F0 m 83 ls [.int s0]) := by
  unfold F_X11_loophole_83 at hf
  have e9 := Option.some.inj hf
  exact r_iret G w hm (congrArg Prod.fst e9) (congrArg Prod.snd e9) (dcs_get dec_X11_loophole_1 2 rfl)
set_option maxRecDepth 100000 in
set_option maxHeartbeats 4000000 in
theorem B_X11_loophole_0 {H : Heap} {locs : List Loc} {ls : Array Slot} {r0 : Int32} {σ0 : hSt} (a0 : Nat) (l1 : Int32) (l2 : Int32) (l3 : Int32) (σ : hSt) (G : Gx p m c cX11_loophole 4 s args RX11 D ay NC ad (aN NC ad)) (hm : meth.sig.returnType = (some .int) ∧ meth.locks = false) (ok_a0 : okr kC NC 11 a0 = true) (hf : F_X11_loophole a0 l1 l2 l3 σ = some (r0, σ0))  (w : Wd D ay kC NC ad (aN NC ad) s σ H locs) (hl : lv_has ls 4 [(0, .ref (ad a0)), (1, .int l1), (2, .int l2), (3, .int l3)]) : W p l e (rmK 6 145) s m args below meth c H locs 0 0 (MQ below (cI D ay kC NC ad r0 σ0) args s 0 0 (aN NC ad)) (F0 m 0 ls []) := by
  have k_a0 := okr_in ok_a0
  unfold F_X11_loophole at hf
  refine lv_aload_n G.hx G.hb (dcs_get dec_X11_loophole_0 0 rfl) rfl (lv_at hl 0 rfl) ?_
  refine lv_iload_n G.hx G.hb (dcs_get dec_X11_loophole_0 1 rfl) rfl (lv_at hl 1 rfl) ?_
  obtain ⟨v2, h1, hf⟩ := cB_some hf
  refine a_i (k_V (As := [.int l1]) (rest := []) cls11 lb_X11_isHill lv_X11_isHill q_686 (C_X11_isHill G.2.2.1 a0 l1 σ h1 ok_a0) ⟨(Nat.le_of_ble_eq_true rfl), (Nat.le_of_ble_eq_true rfl)⟩ G w k_a0.1 k_a0.2 rfl rfl hl.1 (Nat.le_of_ble_eq_true rfl) (dcs_get dec_X11_loophole_0 2 rfl) ⟨Nat.le_refl _, Nat.le_refl _⟩) G w (fun H locs w => ?_)
  refine lv_if_eq (tgt := 41) G.hx G.hb (dcs_get dec_X11_loophole_0 3 rfl) (by decide) (fun hc => ?_) (fun hc => ?_)
  · rw [if_pos hc] at hf
    exact B_X11_loophole_41  σ G hm  hf  w (lv_sub hl [] rfl)
  · rw [if_neg hc] at hf
    refine lv_aload_n G.hx G.hb (dcs_get dec_X11_loophole_0 4 rfl) rfl (lv_at hl 0 rfl) ?_
    refine lv_iload_n G.hx G.hb (dcs_get dec_X11_loophole_0 5 rfl) rfl (lv_at hl 2 rfl) ?_
    obtain ⟨v4, h3, hf⟩ := cB_some hf
    refine a_i (k_V (As := [.int l2]) (rest := []) cls11 lb_X11_isHill lv_X11_isHill q_686 (C_X11_isHill G.2.2.1 a0 l2 σ h3 ok_a0) ⟨(Nat.le_of_ble_eq_true rfl), (Nat.le_of_ble_eq_true rfl)⟩ G w k_a0.1 k_a0.2 rfl rfl hl.1 (Nat.le_of_ble_eq_true rfl) (dcs_get dec_X11_loophole_0 6 rfl) ⟨Nat.le_refl _, Nat.le_refl _⟩) G w (fun H locs w => ?_)
    refine lv_if_eq (tgt := 41) G.hx G.hb (dcs_get dec_X11_loophole_0 7 rfl) (by decide) (fun hc => ?_) (fun hc => ?_)
    · rw [if_pos hc] at hf
      exact B_X11_loophole_41  σ G hm  hf  w (lv_sub hl [] rfl)
    · rw [if_neg hc] at hf
      refine lv_iload_n G.hx G.hb (dcs_get dec_X11_loophole_0 8 rfl) rfl (lv_at hl 1 rfl) ?_
      refine lv_iload_n G.hx G.hb (dcs_get dec_X11_loophole_0 9 rfl) rfl (lv_at hl 2 rfl) ?_
      refine lv_icmp_eq (tgt := 41) G.hx G.hb (dcs_get dec_X11_loophole_0 10 rfl) (by decide) (fun hc => ?_) (fun hc => ?_)
      · rw [if_pos hc] at hf
        exact B_X11_loophole_41  σ G hm  hf  w (lv_sub hl [] rfl)
      · rw [if_neg hc] at hf
        refine lv_aload_n G.hx G.hb (dcs_get dec_X11_loophole_0 11 rfl) rfl (lv_at hl 0 rfl) ?_
        refine lv_iload_n G.hx G.hb (dcs_get dec_X11_loophole_0 12 rfl) rfl (lv_at hl 3 rfl) ?_
        obtain ⟨v6, h5, hf⟩ := cB_some hf
        refine a_i (k_V (As := [.int l3]) (rest := []) cls11 lb_X11_isNews lv_X11_isNews q_720 (C_X11_isNews G.2.2.1 a0 l3 σ h5 ok_a0) ⟨(Nat.le_of_ble_eq_true rfl), (Nat.le_of_ble_eq_true rfl)⟩ G w k_a0.1 k_a0.2 rfl rfl hl.1 (Nat.le_of_ble_eq_true rfl) (dcs_get dec_X11_loophole_0 13 rfl) ⟨Nat.le_refl _, Nat.le_refl _⟩) G w (fun H locs w => ?_)
        refine lv_if_eq (tgt := 41) G.hx G.hb (dcs_get dec_X11_loophole_0 14 rfl) (by decide) (fun hc => ?_) (fun hc => ?_)
        · rw [if_pos hc] at hf
          exact B_X11_loophole_41  σ G hm  hf  w (lv_sub hl [] rfl)
        · rw [if_neg hc] at hf
          refine lv_aload_n G.hx G.hb (dcs_get dec_X11_loophole_0 15 rfl) rfl (lv_at hl 0 rfl) ?_
          obtain ⟨z7, e_z7, ok_z7, hf⟩ := cR_some hf
          have k_z7 := okr_in ok_z7
          refine r_getr (k := 5) cls11 fi_11_5.1 fi_11_5.2 q_396 G w k_a0.1 k_a0.2 e_z7 (dcs_get dec_X11_loophole_0 16 rfl) ?_
          refine lv_iload_n G.hx G.hb (dcs_get dec_X11_loophole_0 17 rfl) rfl (lv_at hl 1 rfl) ?_
          refine lv_iload_n G.hx G.hb (dcs_get dec_X11_loophole_0 18 rfl) rfl (lv_at hl 3 rfl) ?_
          obtain ⟨v9, h8, hf⟩ := cB_some hf
          refine a_i (k_VN (As := [.int l1, .int l3]) (rest := []) cls10 lb_X10_knows lv_X10_knows nm_724 (C_X10_knows G.2.2.1 z7 l1 l3 σ h8 ok_z7) ⟨(Nat.le_of_ble_eq_true rfl), (Nat.le_of_ble_eq_true rfl)⟩ G w k_z7.1 k_z7.2 rfl rfl hl.1 (Nat.le_of_ble_eq_true rfl) (dcs_get dec_X11_loophole_0 19 rfl) ⟨Nat.le_refl _, Nat.le_refl _⟩) G w (fun H locs w => ?_)
          refine lv_if_ne (tgt := 43) G.hx G.hb (dcs_get dec_X11_loophole_0 20 rfl) (by decide) (fun hc => ?_) (fun hc => ?_)
          · rw [if_neg hc] at hf
            refine lv_aload_n G.hx G.hb (dcs_get dec_X11_loophole_0 23 rfl) rfl (lv_at hl 0 rfl) ?_
            obtain ⟨z10, e_z10, ok_z10, hf⟩ := cR_some hf
            have k_z10 := okr_in ok_z10
            refine r_getr (k := 12) cls11 fi_11_12.1 fi_11_12.2 q_403 G w k_a0.1 k_a0.2 e_z10 (dcs_get dec_X11_loophole_0 24 rfl) ?_
            refine lv_aload_n G.hx G.hb (dcs_get dec_X11_loophole_0 25 rfl) rfl (lv_at hl 0 rfl) ?_
            obtain ⟨z11, e_z11, ok_z11, hf⟩ := cR_some hf
            have k_z11 := okr_in ok_z11
            refine r_getr (k := 1) cls11 fi_11_1.1 fi_11_1.2 q_392 G w k_a0.1 k_a0.2 e_z11 (dcs_get dec_X11_loophole_0 26 rfl) ?_
            refine lv_aload_n G.hx G.hb (dcs_get dec_X11_loophole_0 27 rfl) rfl (lv_at hl 0 rfl) ?_
            obtain ⟨z12, e_z12, ok_z12, hf⟩ := cR_some hf
            have k_z12 := okr_in ok_z12
            refine r_getr (k := 5) cls11 fi_11_5.1 fi_11_5.2 q_396 G w k_a0.1 k_a0.2 e_z12 (dcs_get dec_X11_loophole_0 28 rfl) ?_
            refine lv_iload_n G.hx G.hb (dcs_get dec_X11_loophole_0 29 rfl) rfl (lv_at hl 1 rfl) ?_
            refine lv_iload_n G.hx G.hb (dcs_get dec_X11_loophole_0 30 rfl) rfl (lv_at hl 2 rfl) ?_
            refine lv_iload_n G.hx G.hb (dcs_get dec_X11_loophole_0 31 rfl) rfl (lv_at hl 3 rfl) ?_
            obtain ⟨σ14, h13, hf⟩ := cB_some hf
            refine a_v (k_VN (As := [.ref (ad z11), .ref (ad z12), .int l1, .int l2, .int l3]) (rest := []) cls1 lb_X1_seek lv_X1_seek nm_915 (C_X1_seek G.2.2.1 z10 z11 z12 l1 l2 l3 σ h13 ok_z10 ok_z11 ok_z12) ⟨(Nat.le_of_ble_eq_true rfl), (Nat.le_of_ble_eq_true rfl)⟩ G w k_z10.1 k_z10.2 rfl rfl hl.1 (Nat.le_of_ble_eq_true rfl) (dcs_get dec_X11_loophole_0 32 rfl) ⟨Nat.le_refl _, Nat.le_refl _⟩) G w (fun H locs w => ?_)
            refine lv_aload_n G.hx G.hb (dcs_get dec_X11_loophole_0 33 rfl) rfl (lv_at hl 0 rfl) ?_
            obtain ⟨z15, e_z15, ok_z15, hf⟩ := cR_some hf
            have k_z15 := okr_in ok_z15
            refine r_getr (k := 12) cls11 fi_11_12.1 fi_11_12.2 q_403 G w k_a0.1 k_a0.2 e_z15 (dcs_get dec_X11_loophole_0 34 rfl) ?_
            refine r_getiN (k := 1) cls1 fi_1_1.1 fi_1_1.2 nf_353 G w k_z15.1 k_z15.2 (dcs_get dec_X11_loophole_0 35 rfl) ?_
            refine lv_if_ne (tgt := 76) G.hx G.hb (dcs_get dec_X11_loophole_0 36 rfl) (by decide) (fun hc => ?_) (fun hc => ?_)
            · rw [if_neg hc] at hf
              refine lv_aload_n G.hx G.hb (dcs_get dec_X11_loophole_0 39 rfl) rfl (lv_at hl 0 rfl) ?_
              obtain ⟨z16, e_z16, ok_z16, hf⟩ := cR_some hf
              have k_z16 := okr_in ok_z16
              refine r_getr (k := 12) cls11 fi_11_12.1 fi_11_12.2 q_403 G w k_a0.1 k_a0.2 e_z16 (dcs_get dec_X11_loophole_1 0 rfl) ?_
              refine r_getiN (k := 1) cls1 fi_1_1.1 fi_1_1.2 nf_353 G w k_z16.1 k_z16.2 (dcs_get dec_X11_loophole_1 1 rfl) ?_
              exact B_X11_loophole_83 (σ14.1 z16 1) σ14 G hm  hf  w (lv_sub hl [] rfl)
            · rw [if_pos hc] at hf
              refine lv_bipush (v := (-2 : Int32)) G.hx G.hb (dcs_get dec_X11_loophole_0 37 rfl) (by decide) ?_
              refine lv_goto (tgt := 83) G.hx G.hb (dcs_get dec_X11_loophole_0 38 rfl) (by decide) ?_
              exact B_X11_loophole_83 (-2 : Int32) σ14 G hm  hf  w (lv_sub hl [] rfl)
          · rw [if_pos hc] at hf
            exact B_X11_loophole_41  σ G hm  hf  w (lv_sub hl [] rfl)
end
set_option maxRecDepth 100000 in
set_option maxHeartbeats 4000000 in
theorem C_X11_loophole {l : Launch} {D : va_G} {ay : Nat → ClassId} {ad : Nat → Nat} (hi : hInj NC ad) (a0 : Nat) (l1 : Int32) (l2 : Int32) (l3 : Int32) (σ : hSt) {r0 : Int32} {σ0 : hSt} (hf : F_X11_loophole a0 l1 l2 l3 σ = some (r0, σ0)) (ok_a0 : okr kC NC 11 a0 = true) : hM l D ay kC NC ad yX11_loophole cX11_loophole 4 ((some .int)) (rmK 6 145) [.ref (ad a0), .int l1, .int l2, .int l3] σ (cI D ay kC NC ad r0 σ0) := by
  refine hM_in (by decide) hi (Nat.le_of_ble_eq_true rfl) ?_
  intro p e s m below meth c G hm w ls hl
  exact B_X11_loophole_0 a0 l1 l2 l3 σ G hm ok_a0 hf w (lv_sub hl [0, 1, 2, 3] rfl)

/-! HillDrums.loopholeAt(IIII)I -/
def DL_X11_loopholeAt_0 : List (Nat × Instr × Nat) := [(0, .iload 4, 2), (2, .ifCond .ge 5, 3), (5, .iconst (-1), 1), (6, .ireturn, 1), (7, .aload_n 0, 1), (8, .iload_n 1, 1), (9, .iload_n 2, 1), (10, .iload_n 3, 1), (11, .invokevirtual 245, 3), (14, .istore 5, 2), (16, .iload 5, 2), (18, .ifCond .ge 6, 3), (21, .iload 5, 2), (23, .ireturn, 1), (24, .iload 4, 2), (26, .iload 5, 2), (28, .if_icmp .ge 22, 3), (31, .iload 4, 2), (33, .iconst 3, 1), (34, .if_icmp .ge 16, 3), (37, .aload_n 0, 1), (38, .getfield 80, 3), (41, .getfield 248, 3), (44, .iload 4, 2), (46, .iaload, 1), (47, .goto 4, 3), (50, .iconst (-1), 1), (51, .ireturn, 1)]
set_option maxRecDepth 100000 in
theorem dec_X11_loopholeAt_0 : dcs cX11_loopholeAt DL_X11_loopholeAt_0 = true := by decide +kernel
theorem lb_X11_loopholeAt : lkB yX11_loopholeAt cX11_loopholeAt 6 ((some .int)) 4 := ⟨q_938, q_1, ⟨by decide, by decide⟩, by decide +kernel⟩
theorem lv_X11_loopholeAt : lkV yX11_loopholeAt := ⟨q_936, q_937⟩
def F_X11_loopholeAt_51 (s0 : Int32) (σ : hSt) : Option (Int32 × hSt) :=
some ((s0, σ))
def F_X11_loopholeAt_50  (σ : hSt) : Option (Int32 × hSt) :=
F_X11_loopholeAt_51 (-1 : Int32) σ
def F_X11_loopholeAt (a0 : Nat) (l1 : Int32) (l2 : Int32) (l3 : Int32) (l4 : Int32) (σ : hSt) : Option (Int32 × hSt) :=
if 0 ≤ l4 then (
cC (F_X11_loophole a0 l1 l2 l3 σ) fun v2 σ3 =>
if 0 ≤ v2 then (
if v2 ≤ l4 then (
F_X11_loopholeAt_50  σ3) else (
if (3 : Int32) ≤ l4 then (
F_X11_loopholeAt_50  σ3) else (
cR (σ3.2.2 a0 12) (okr kC NC 1) fun z4 =>
cR (σ3.2.2 z4 0) (okr kC NC 101) fun z5 =>
cG (inb l4 (kC z5).2) <|
F_X11_loopholeAt_51 (σ3.1 z5 l4.toNatClampNeg) σ3))) else (
some ((v2, σ3)))) else (
some (((-1 : Int32), σ)))
section
variable {p : Program} {l : Launch} {e : Env} {s : State} {m : MethodId} {args : Array Value} {below : List Frame} {meth : Method} {c : Code} {D : va_G} {ay : Nat → ClassId} {ad : Nat → Nat}
set_option maxRecDepth 100000 in
set_option maxHeartbeats 4000000 in
theorem B_X11_loopholeAt_51 {H : Heap} {locs : List Loc} {ls : Array Slot} {r0 : Int32} {σ0 : hSt} (s0 : Int32) (σ : hSt) (G : Gx p m c cX11_loopholeAt 6 s args RX11 D ay NC ad (aN NC ad)) (hm : meth.sig.returnType = (some .int) ∧ meth.locks = false)  (hf : F_X11_loopholeAt_51 s0 σ = some (r0, σ0))  (w : Wd D ay kC NC ad (aN NC ad) s σ H locs) (hl : lv_has ls 6 []) : W p l e (rmK 7 168) s m args below meth c H locs 0 0 (MQ below (cI D ay kC NC ad r0 σ0) args s 0 0 (aN NC ad)) (F0 m 51 ls [.int s0]) := by
  unfold F_X11_loopholeAt_51 at hf
  have e9 := Option.some.inj hf
  exact r_iret G w hm (congrArg Prod.fst e9) (congrArg Prod.snd e9) (dcs_get dec_X11_loopholeAt_0 27 rfl)
set_option maxRecDepth 100000 in
set_option maxHeartbeats 4000000 in
theorem B_X11_loopholeAt_50 {H : Heap} {locs : List Loc} {ls : Array Slot} {r0 : Int32} {σ0 : hSt}  (σ : hSt) (G : Gx p m c cX11_loopholeAt 6 s args RX11 D ay NC ad (aN NC ad)) (hm : meth.sig.returnType = (some .int) ∧ meth.locks = false)  (hf : F_X11_loopholeAt_50  σ = some (r0, σ0))  (w : Wd D ay kC NC ad (aN NC ad) s σ H locs) (hl : lv_has ls 6 []) : W p l e (rmK 7 168) s m args below meth c H locs 0 0 (MQ below (cI D ay kC NC ad r0 σ0) args s 0 0 (aN NC ad)) (F0 m 50 ls []) := by
  unfold F_X11_loopholeAt_50 at hf
  refine lv_iconst (v := (-1 : Int32)) G.hx G.hb (dcs_get dec_X11_loopholeAt_0 26 rfl) (by decide) ?_
  exact B_X11_loopholeAt_51 (-1 : Int32) σ G hm  hf  w (lv_sub hl [] rfl)
set_option maxRecDepth 100000 in
set_option maxHeartbeats 4000000 in
theorem B_X11_loopholeAt_0 {H : Heap} {locs : List Loc} {ls : Array Slot} {r0 : Int32} {σ0 : hSt} (a0 : Nat) (l1 : Int32) (l2 : Int32) (l3 : Int32) (l4 : Int32) (σ : hSt) (G : Gx p m c cX11_loopholeAt 6 s args RX11 D ay NC ad (aN NC ad)) (hm : meth.sig.returnType = (some .int) ∧ meth.locks = false) (ok_a0 : okr kC NC 11 a0 = true) (hf : F_X11_loopholeAt a0 l1 l2 l3 l4 σ = some (r0, σ0))  (w : Wd D ay kC NC ad (aN NC ad) s σ H locs) (hl : lv_has ls 6 [(0, .ref (ad a0)), (1, .int l1), (2, .int l2), (3, .int l3), (4, .int l4)]) : W p l e (rmK 7 168) s m args below meth c H locs 0 0 (MQ below (cI D ay kC NC ad r0 σ0) args s 0 0 (aN NC ad)) (F0 m 0 ls []) := by
  have k_a0 := okr_in ok_a0
  unfold F_X11_loopholeAt at hf
  refine lv_iload G.hx G.hb (dcs_get dec_X11_loopholeAt_0 0 rfl) (lv_at hl 4 rfl) ?_
  refine lv_if_ge (tgt := 7) G.hx G.hb (dcs_get dec_X11_loopholeAt_0 1 rfl) (by decide) (fun hc => ?_) (fun hc => ?_)
  · rw [if_pos hc] at hf
    refine lv_aload_n G.hx G.hb (dcs_get dec_X11_loopholeAt_0 4 rfl) rfl (lv_at hl 0 rfl) ?_
    refine lv_iload_n G.hx G.hb (dcs_get dec_X11_loopholeAt_0 5 rfl) rfl (lv_at hl 1 rfl) ?_
    refine lv_iload_n G.hx G.hb (dcs_get dec_X11_loopholeAt_0 6 rfl) rfl (lv_at hl 2 rfl) ?_
    refine lv_iload_n G.hx G.hb (dcs_get dec_X11_loopholeAt_0 7 rfl) rfl (lv_at hl 3 rfl) ?_
    obtain ⟨v2, σ3, h1, hf⟩ := cC_some hf
    refine a_i (k_V (As := [.int l1, .int l2, .int l3]) (rest := []) cls11 lb_X11_loophole lv_X11_loophole q_939 (C_X11_loophole G.2.2.1 a0 l1 l2 l3 σ h1 ok_a0) ⟨(Nat.le_of_ble_eq_true rfl), (Nat.le_of_ble_eq_true rfl)⟩ G w k_a0.1 k_a0.2 rfl rfl hl.1 (Nat.le_of_ble_eq_true rfl) (dcs_get dec_X11_loopholeAt_0 8 rfl) ⟨Nat.le_refl _, Nat.le_refl _⟩) G w (fun H locs w => ?_)
    refine lv_istore (lv' := [(5, .int v2), (0, .ref (ad a0)), (1, .int l1), (2, .int l2), (3, .int l3), (4, .int l4)]) G.hx G.hb (dcs_get dec_X11_loopholeAt_0 9 rfl) hl (by decide) rfl (fun ls hl => ?_)
    refine lv_iload G.hx G.hb (dcs_get dec_X11_loopholeAt_0 10 rfl) (lv_at hl 0 rfl) ?_
    refine lv_if_ge (tgt := 24) G.hx G.hb (dcs_get dec_X11_loopholeAt_0 11 rfl) (by decide) (fun hc => ?_) (fun hc => ?_)
    · rw [if_pos hc] at hf
      refine lv_iload G.hx G.hb (dcs_get dec_X11_loopholeAt_0 14 rfl) (lv_at hl 5 rfl) ?_
      refine lv_iload G.hx G.hb (dcs_get dec_X11_loopholeAt_0 15 rfl) (lv_at hl 0 rfl) ?_
      refine lv_icmp_ge (tgt := 50) G.hx G.hb (dcs_get dec_X11_loopholeAt_0 16 rfl) (by decide) (fun hc => ?_) (fun hc => ?_)
      · rw [if_pos hc] at hf
        exact B_X11_loopholeAt_50  σ3 G hm  hf  w (lv_sub hl [] rfl)
      · rw [if_neg hc] at hf
        refine lv_iload G.hx G.hb (dcs_get dec_X11_loopholeAt_0 17 rfl) (lv_at hl 5 rfl) ?_
        refine lv_iconst (v := (3 : Int32)) G.hx G.hb (dcs_get dec_X11_loopholeAt_0 18 rfl) (by decide) ?_
        refine lv_icmp_ge (tgt := 50) G.hx G.hb (dcs_get dec_X11_loopholeAt_0 19 rfl) (by decide) (fun hc => ?_) (fun hc => ?_)
        · rw [if_pos hc] at hf
          exact B_X11_loopholeAt_50  σ3 G hm  hf  w (lv_sub hl [] rfl)
        · rw [if_neg hc] at hf
          refine lv_aload_n G.hx G.hb (dcs_get dec_X11_loopholeAt_0 20 rfl) rfl (lv_at hl 1 rfl) ?_
          obtain ⟨z4, e_z4, ok_z4, hf⟩ := cR_some hf
          have k_z4 := okr_in ok_z4
          refine r_getr (k := 12) cls11 fi_11_12.1 fi_11_12.2 q_403 G w k_a0.1 k_a0.2 e_z4 (dcs_get dec_X11_loopholeAt_0 21 rfl) ?_
          obtain ⟨z5, e_z5, ok_z5, hf⟩ := cR_some hf
          have k_z5 := okr_in ok_z5
          refine r_getrN (k := 0) cls1 fi_1_0.1 fi_1_0.2 nf_351 G w k_z4.1 k_z4.2 e_z5 (dcs_get dec_X11_loopholeAt_0 22 rfl) ?_
          refine lv_iload G.hx G.hb (dcs_get dec_X11_loopholeAt_0 23 rfl) (lv_at hl 5 rfl) ?_
          obtain ⟨h6, hf⟩ := cG_some hf
          refine r_iald G w k_z5.1 k_z5.2 h6 (dcs_get dec_X11_loopholeAt_0 24 rfl) ?_
          refine lv_goto (tgt := 51) G.hx G.hb (dcs_get dec_X11_loopholeAt_0 25 rfl) (by decide) ?_
          exact B_X11_loopholeAt_51 (σ3.1 z5 l4.toNatClampNeg) σ3 G hm  hf  w (lv_sub hl [] rfl)
    · rw [if_neg hc] at hf
      refine lv_iload G.hx G.hb (dcs_get dec_X11_loopholeAt_0 12 rfl) (lv_at hl 0 rfl) ?_
      have e9 := Option.some.inj hf
      exact r_iret G w hm (congrArg Prod.fst e9) (congrArg Prod.snd e9) (dcs_get dec_X11_loopholeAt_0 13 rfl)
  · rw [if_neg hc] at hf
    refine lv_iconst (v := (-1 : Int32)) G.hx G.hb (dcs_get dec_X11_loopholeAt_0 2 rfl) (by decide) ?_
    have e9 := Option.some.inj hf
    exact r_iret G w hm (congrArg Prod.fst e9) (congrArg Prod.snd e9) (dcs_get dec_X11_loopholeAt_0 3 rfl)
end
set_option maxRecDepth 100000 in
set_option maxHeartbeats 4000000 in
theorem C_X11_loopholeAt {l : Launch} {D : va_G} {ay : Nat → ClassId} {ad : Nat → Nat} (hi : hInj NC ad) (a0 : Nat) (l1 : Int32) (l2 : Int32) (l3 : Int32) (l4 : Int32) (σ : hSt) {r0 : Int32} {σ0 : hSt} (hf : F_X11_loopholeAt a0 l1 l2 l3 l4 σ = some (r0, σ0)) (ok_a0 : okr kC NC 11 a0 = true) : hM l D ay kC NC ad yX11_loopholeAt cX11_loopholeAt 6 ((some .int)) (rmK 7 168) [.ref (ad a0), .int l1, .int l2, .int l3, .int l4] σ (cI D ay kC NC ad r0 σ0) := by
  refine hM_in (by decide) hi (Nat.le_of_ble_eq_true rfl) ?_
  intro p e s m below meth c G hm w ls hl
  exact B_X11_loopholeAt_0 a0 l1 l2 l3 l4 σ G hm ok_a0 hf w (lv_sub hl [0, 1, 2, 3, 4] rfl)

/-! HillDrums.sure(IIII)I -/
def DL_X11_sure_0 : List (Nat × Instr × Nat) := [(0, .iload_n 2, 1), (1, .iconst 1, 1), (2, .if_icmp .lt 41, 3), (5, .iload_n 2, 1), (6, .bipush 9, 2), (8, .if_icmp .gt 35, 3), (11, .iload 4, 2), (13, .iconst 1, 1), (14, .if_icmp .lt 29, 3), (17, .iload 4, 2), (19, .bipush 9, 2), (21, .if_icmp .gt 22, 3), (24, .iload_n 1, 1), (25, .ifCond .lt 18, 3), (28, .iload_n 1, 1), (29, .iload_n 2, 1), (30, .if_icmp .gt 13, 3), (33, .iload_n 3, 1), (34, .ifCond .lt 9, 3), (37, .iload_n 3, 1), (38, .iload 4, 2), (40, .if_icmp .le 5, 3), (43, .iconst (-1), 1), (44, .ireturn, 1), (45, .lconst 1, 1), (46, .lstore 5, 2), (48, .lconst 1, 1), (49, .lstore 7, 2), (51, .iconst 1, 1), (52, .istore 9, 2), (54, .iload 9, 2), (56, .bipush 18, 2), (58, .if_icmp .gt 44, 3), (61, .lload 5, 2), (63, .iload_n 2, 1), (64, .i2l, 1), (65, .lmul, 1), (66, .lstore 5, 2), (68, .lload 7, 2), (70, .iload_n 1, 1)]
set_option maxRecDepth 100000 in
theorem dec_X11_sure_0 : dcs cX11_sure DL_X11_sure_0 = true := by decide +kernel
def DL_X11_sure_1 : List (Nat × Instr × Nat) := [(71, .i2l, 1), (72, .lmul, 1), (73, .lstore 7, 2), (75, .iload 4, 2), (77, .i2l, 1), (78, .lload 5, 2), (80, .lload 7, 2), (82, .lsub, 1), (83, .lmul, 1), (84, .iload_n 3, 1), (85, .i2l, 1), (86, .lload 5, 2), (88, .lmul, 1), (89, .lcmp, 1), (90, .ifCond .lt 6, 3), (93, .iload 9, 2), (95, .ireturn, 1), (96, .iinc 9 1, 3), (99, .goto (-45), 3), (102, .bipush (-2), 2), (104, .ireturn, 1)]
set_option maxRecDepth 100000 in
theorem dec_X11_sure_1 : dcs cX11_sure DL_X11_sure_1 = true := by decide +kernel
theorem lb_X11_sure : lkB yX11_sure cX11_sure 10 ((some .int)) 4 := ⟨q_943, q_1, ⟨by decide, by decide⟩, by decide +kernel⟩
theorem lv_X11_sure : lkV yX11_sure := ⟨q_941, q_942⟩
def F_X11_sure_43  (σ : hSt) : Option (Int32) :=
some ((-1 : Int32))
def F_X11_sure_54b (l1 : Int32) (l2 : Int32) (l3 : Int32) (l4 : Int32) (l5 : Int64) (l7 : Int64) (l9 : Int32) (σ : hSt) : Option ((Int64 × Int64 × Int32) ⊕ (Int32)) :=
if (18 : Int32) < l9 then (
some (.inr ((-2 : Int32)))) else (
cL (l5 * (l2.toInt64)) fun v1 =>
cL (l7 * (l1.toInt64)) fun v2 =>
if (lg_cmp ((l4.toInt64) * (v1 - v2)) ((l3.toInt64) * v1)) < 0 then (
cL (l9 + (1 : Int32)) fun v3 =>
some (.inl (v1, v2, v3))) else (
some (.inr (l9))))
def S_X11_sure_54 (l1 : Int32) (l2 : Int32) (l3 : Int32) (l4 : Int32) (σ : hSt) (v : Int64 × Int64 × Int32) : Option ((Int64 × Int64 × Int32) ⊕ (Int32)) := F_X11_sure_54b l1 l2 l3 l4 v.1 v.2.1 v.2.2 σ
def F_X11_sure_54 (l1 : Int32) (l2 : Int32) (l3 : Int32) (l4 : Int32) (l5 : Int64) (l7 : Int64) (l9 : Int32) (σ : hSt) : Option (Int32) := lp (S_X11_sure_54 l1 l2 l3 l4 σ) fuel (l5, l7, l9)
def F_X11_sure_e (l1 : Int32) (l2 : Int32) (l3 : Int32) (l4 : Int32) (σ : hSt) : Option (Int32) :=
if l2 < (1 : Int32) then (
F_X11_sure_43  σ) else (
if (9 : Int32) < l2 then (
F_X11_sure_43  σ) else (
if l4 < (1 : Int32) then (
F_X11_sure_43  σ) else (
if (9 : Int32) < l4 then (
F_X11_sure_43  σ) else (
if l1 < 0 then (
F_X11_sure_43  σ) else (
if l2 < l1 then (
F_X11_sure_43  σ) else (
if l3 < 0 then (
F_X11_sure_43  σ) else (
if l3 ≤ l4 then (
F_X11_sure_54 l1 l2 l3 l4 (1 : Int64) (1 : Int64) (1 : Int32) σ) else (
F_X11_sure_43  σ))))))))
def F_X11_sure (a0 : Nat) (l1 : Int32) (l2 : Int32) (l3 : Int32) (l4 : Int32) (σ : hSt) : Option (Int32) := F_X11_sure_e l1 l2 l3 l4 σ
section
variable {p : Program} {l : Launch} {e : Env} {s : State} {m : MethodId} {args : Array Value} {below : List Frame} {meth : Method} {c : Code} {D : va_G} {ay : Nat → ClassId} {ad : Nat → Nat}
set_option maxRecDepth 100000 in
set_option maxHeartbeats 4000000 in
theorem B_X11_sure_43 {H : Heap} {locs : List Loc} {ls : Array Slot} {r0 : Int32}  (σ : hSt) (G : Gx p m c cX11_sure 10 s args RX11 D ay NC ad (aN NC ad)) (hm : meth.sig.returnType = (some .int) ∧ meth.locks = false)  (hf : F_X11_sure_43  σ = some r0)  (w : Wd D ay kC NC ad (aN NC ad) s σ H locs) (hl : lv_has ls 10 []) : W p l e (rmK 0 0) s m args below meth c H locs 0 0 (MQ below (cI D ay kC NC ad r0 σ) args s 0 0 (aN NC ad)) (F0 m 43 ls []) := by
  unfold F_X11_sure_43 at hf
  refine lv_iconst (v := (-1 : Int32)) G.hx G.hb (dcs_get dec_X11_sure_0 22 rfl) (by decide) ?_
  have e9 := Option.some.inj hf
  exact r_iret G w hm e9 rfl (dcs_get dec_X11_sure_0 23 rfl)
set_option maxRecDepth 100000 in
set_option maxHeartbeats 4000000 in
theorem B_X11_sure_54b {H : Heap} {locs : List Loc} {ls : Array Slot} {r0 : Int32} {o : (Int64 × Int64 × Int32) ⊕ (Int32)} (l1 : Int32) (l2 : Int32) (l3 : Int32) (l4 : Int32) (l5 : Int64) (l7 : Int64) (l9 : Int32) (σ : hSt) (G : Gx p m c cX11_sure 10 s args RX11 D ay NC ad (aN NC ad)) (hm : meth.sig.returnType = (some .int) ∧ meth.locks = false)  (hf : F_X11_sure_54b l1 l2 l3 l4 l5 l7 l9 σ = some o) (hb0 : ∀ (v : Int64 × Int64 × Int32), o = .inl v → ∀ (H : Heap) (locs : List Loc) (ls : Array Slot), Wd D ay kC NC ad (aN NC ad) s σ H locs → lv_has ls 10 [(1, .int l1), (2, .int l2), (3, .int l3), (4, .int l4), (5, .long v.1), (7, .long v.2.1), (9, .int v.2.2)] → W p l e (rmK 0 0) s m args below meth c H locs 0 0 (MQ below (cI D ay kC NC ad r0 σ) args s 0 0 (aN NC ad)) (F0 m 54 ls [])) (hr : ∀ x, o = .inr (x) → x = r0) (w : Wd D ay kC NC ad (aN NC ad) s σ H locs) (hl : lv_has ls 10 [(1, .int l1), (2, .int l2), (3, .int l3), (4, .int l4), (5, .long l5), (7, .long l7), (9, .int l9)]) : W p l e (rmK 0 0) s m args below meth c H locs 0 0 (MQ below (cI D ay kC NC ad r0 σ) args s 0 0 (aN NC ad)) (F0 m 54 ls []) := by
  unfold F_X11_sure_54b at hf
  refine lv_iload G.hx G.hb (dcs_get dec_X11_sure_0 30 rfl) (lv_at hl 6 rfl) ?_
  refine lv_bipush (v := (18 : Int32)) G.hx G.hb (dcs_get dec_X11_sure_0 31 rfl) (by decide) ?_
  refine lv_icmp_gt (tgt := 102) G.hx G.hb (dcs_get dec_X11_sure_0 32 rfl) (by decide) (fun hc => ?_) (fun hc => ?_)
  · rw [if_pos hc] at hf
    refine lv_bipush (v := (-2 : Int32)) G.hx G.hb (dcs_get dec_X11_sure_1 19 rfl) (by decide) ?_
    have e9 := hr _ (Option.some.inj hf).symm
    exact r_iret G w hm e9 rfl (dcs_get dec_X11_sure_1 20 rfl)
  · rw [if_neg hc] at hf
    refine lv_lload G.hx G.hb (dcs_get dec_X11_sure_0 33 rfl) (lv_at hl 4 rfl) ?_
    refine lv_iload_n G.hx G.hb (dcs_get dec_X11_sure_0 34 rfl) rfl (lv_at hl 1 rfl) ?_
    refine lv_i2l G.hx G.hb (dcs_get dec_X11_sure_0 35 rfl) rfl ?_
    refine lv_lmul G.hx G.hb (dcs_get dec_X11_sure_0 36 rfl) ?_
    obtain ⟨v1, e_v1, hf⟩ := cL_some hf
    refine r_topl e_v1 ?_
    refine lv_lstore (lv' := [(5, .long v1), (1, .int l1), (2, .int l2), (3, .int l3), (4, .int l4), (7, .long l7), (9, .int l9)]) G.hx G.hb (dcs_get dec_X11_sure_0 37 rfl) hl (by decide) rfl (fun ls hl => ?_)
    refine lv_lload G.hx G.hb (dcs_get dec_X11_sure_0 38 rfl) (lv_at hl 5 rfl) ?_
    refine lv_iload_n G.hx G.hb (dcs_get dec_X11_sure_0 39 rfl) rfl (lv_at hl 1 rfl) ?_
    refine lv_i2l G.hx G.hb (dcs_get dec_X11_sure_1 0 rfl) rfl ?_
    refine lv_lmul G.hx G.hb (dcs_get dec_X11_sure_1 1 rfl) ?_
    obtain ⟨v2, e_v2, hf⟩ := cL_some hf
    refine r_topl e_v2 ?_
    refine lv_lstore (lv' := [(7, .long v2), (5, .long v1), (1, .int l1), (2, .int l2), (3, .int l3), (4, .int l4), (9, .int l9)]) G.hx G.hb (dcs_get dec_X11_sure_1 2 rfl) hl (by decide) rfl (fun ls hl => ?_)
    refine lv_iload G.hx G.hb (dcs_get dec_X11_sure_1 3 rfl) (lv_at hl 5 rfl) ?_
    refine lv_i2l G.hx G.hb (dcs_get dec_X11_sure_1 4 rfl) rfl ?_
    refine lv_lload G.hx G.hb (dcs_get dec_X11_sure_1 5 rfl) (lv_at hl 1 rfl) ?_
    refine lv_lload G.hx G.hb (dcs_get dec_X11_sure_1 6 rfl) (lv_at hl 0 rfl) ?_
    refine lv_lsub G.hx G.hb (dcs_get dec_X11_sure_1 7 rfl) ?_
    refine lv_lmul G.hx G.hb (dcs_get dec_X11_sure_1 8 rfl) ?_
    refine lv_iload_n G.hx G.hb (dcs_get dec_X11_sure_1 9 rfl) rfl (lv_at hl 4 rfl) ?_
    refine lv_i2l G.hx G.hb (dcs_get dec_X11_sure_1 10 rfl) rfl ?_
    refine lv_lload G.hx G.hb (dcs_get dec_X11_sure_1 11 rfl) (lv_at hl 1 rfl) ?_
    refine lv_lmul G.hx G.hb (dcs_get dec_X11_sure_1 12 rfl) ?_
    refine W.lcmp G.hx G.hb (dcs_get dec_X11_sure_1 13 rfl) ?_
    refine lv_if_lt (tgt := 96) G.hx G.hb (dcs_get dec_X11_sure_1 14 rfl) (by decide) (fun hc => ?_) (fun hc => ?_)
    · rw [if_pos hc] at hf
      obtain ⟨v3, e_v3, hf⟩ := cL_some hf
      refine lv_iinc (v := v3) (lv' := [(9, .int v3), (7, .long v2), (5, .long v1), (1, .int l1), (2, .int l2), (3, .int l3), (4, .int l4)]) G.hx G.hb (dcs_get dec_X11_sure_1 17 rfl) hl (k := 6) rfl (by rw [e_v3]; rfl) (by decide) rfl (fun ls hl => ?_)
      refine lv_goto (tgt := 54) G.hx G.hb (dcs_get dec_X11_sure_1 18 rfl) (by decide) ?_
      exact hb0 _ (Option.some.inj hf).symm _ _ _ w (lv_sub hl [3, 4, 5, 6, 2, 1, 0] rfl)
    · rw [if_neg hc] at hf
      refine lv_iload G.hx G.hb (dcs_get dec_X11_sure_1 15 rfl) (lv_at hl 6 rfl) ?_
      have e9 := hr _ (Option.some.inj hf).symm
      exact r_iret G w hm e9 rfl (dcs_get dec_X11_sure_1 16 rfl)
set_option maxRecDepth 100000 in
set_option maxHeartbeats 4000000 in
theorem H_X11_sure_54 {r0 : Int32} (l1 : Int32) (l2 : Int32) (l3 : Int32) (l4 : Int32) (σ : hSt) (G : Gx p m c cX11_sure 10 s args RX11 D ay NC ad (aN NC ad)) (hm : meth.sig.returnType = (some .int) ∧ meth.locks = false)   : ∀ (k : Nat) (v : Int64 × Int64 × Int32), lp (S_X11_sure_54 l1 l2 l3 l4 σ) k v = some r0 → ∀ (H : Heap) (locs : List Loc) (ls : Array Slot), Wd D ay kC NC ad (aN NC ad) s σ H locs → lv_has ls 10 [(1, .int l1), (2, .int l2), (3, .int l3), (4, .int l4), (5, .long v.1), (7, .long v.2.1), (9, .int v.2.2)] → W p l e (rmK 0 0) s m args below meth c H locs 0 0 (MQ below (cI D ay kC NC ad r0 σ) args s 0 0 (aN NC ad)) (F0 m 54 ls []) := by
  intro k
  induction k with
  | zero => intro v hf; cases hf
  | succ k ih =>
    intro v hf H locs ls w hl
    obtain ⟨o1, h1, h2, h3⟩ := lp_some hf
    exact B_X11_sure_54b l1 l2 l3 l4 v.1 v.2.1 v.2.2 σ G hm  h1  (fun v' e => ih v' (h2 v' e)) (fun x e => h3 x e) w hl
set_option maxRecDepth 100000 in
set_option maxHeartbeats 4000000 in
theorem B_X11_sure_54 {H : Heap} {locs : List Loc} {ls : Array Slot} {r0 : Int32} (l1 : Int32) (l2 : Int32) (l3 : Int32) (l4 : Int32) (l5 : Int64) (l7 : Int64) (l9 : Int32) (σ : hSt) (G : Gx p m c cX11_sure 10 s args RX11 D ay NC ad (aN NC ad)) (hm : meth.sig.returnType = (some .int) ∧ meth.locks = false)  (hf : F_X11_sure_54 l1 l2 l3 l4 l5 l7 l9 σ = some r0)  (w : Wd D ay kC NC ad (aN NC ad) s σ H locs) (hl : lv_has ls 10 [(1, .int l1), (2, .int l2), (3, .int l3), (4, .int l4), (5, .long l5), (7, .long l7), (9, .int l9)]) : W p l e (rmK 0 0) s m args below meth c H locs 0 0 (MQ below (cI D ay kC NC ad r0 σ) args s 0 0 (aN NC ad)) (F0 m 54 ls []) := by
  unfold F_X11_sure_54 at hf
  exact H_X11_sure_54 l1 l2 l3 l4 σ G hm   fuel (l5, l7, l9) hf _ _ _ w hl
set_option maxRecDepth 100000 in
set_option maxHeartbeats 4000000 in
theorem B_X11_sure_0 {H : Heap} {locs : List Loc} {ls : Array Slot} {r0 : Int32} (l1 : Int32) (l2 : Int32) (l3 : Int32) (l4 : Int32) (σ : hSt) (G : Gx p m c cX11_sure 10 s args RX11 D ay NC ad (aN NC ad)) (hm : meth.sig.returnType = (some .int) ∧ meth.locks = false)  (hf : F_X11_sure_e l1 l2 l3 l4 σ = some r0)  (w : Wd D ay kC NC ad (aN NC ad) s σ H locs) (hl : lv_has ls 10 [(1, .int l1), (2, .int l2), (3, .int l3), (4, .int l4)]) : W p l e (rmK 0 0) s m args below meth c H locs 0 0 (MQ below (cI D ay kC NC ad r0 σ) args s 0 0 (aN NC ad)) (F0 m 0 ls []) := by
  unfold F_X11_sure_e at hf
  refine lv_iload_n G.hx G.hb (dcs_get dec_X11_sure_0 0 rfl) rfl (lv_at hl 1 rfl) ?_
  refine lv_iconst (v := (1 : Int32)) G.hx G.hb (dcs_get dec_X11_sure_0 1 rfl) (by decide) ?_
  refine lv_icmp_lt (tgt := 43) G.hx G.hb (dcs_get dec_X11_sure_0 2 rfl) (by decide) (fun hc => ?_) (fun hc => ?_)
  · rw [if_pos hc] at hf
    exact B_X11_sure_43  σ G hm  hf  w (lv_sub hl [] rfl)
  · rw [if_neg hc] at hf
    refine lv_iload_n G.hx G.hb (dcs_get dec_X11_sure_0 3 rfl) rfl (lv_at hl 1 rfl) ?_
    refine lv_bipush (v := (9 : Int32)) G.hx G.hb (dcs_get dec_X11_sure_0 4 rfl) (by decide) ?_
    refine lv_icmp_gt (tgt := 43) G.hx G.hb (dcs_get dec_X11_sure_0 5 rfl) (by decide) (fun hc => ?_) (fun hc => ?_)
    · rw [if_pos hc] at hf
      exact B_X11_sure_43  σ G hm  hf  w (lv_sub hl [] rfl)
    · rw [if_neg hc] at hf
      refine lv_iload G.hx G.hb (dcs_get dec_X11_sure_0 6 rfl) (lv_at hl 3 rfl) ?_
      refine lv_iconst (v := (1 : Int32)) G.hx G.hb (dcs_get dec_X11_sure_0 7 rfl) (by decide) ?_
      refine lv_icmp_lt (tgt := 43) G.hx G.hb (dcs_get dec_X11_sure_0 8 rfl) (by decide) (fun hc => ?_) (fun hc => ?_)
      · rw [if_pos hc] at hf
        exact B_X11_sure_43  σ G hm  hf  w (lv_sub hl [] rfl)
      · rw [if_neg hc] at hf
        refine lv_iload G.hx G.hb (dcs_get dec_X11_sure_0 9 rfl) (lv_at hl 3 rfl) ?_
        refine lv_bipush (v := (9 : Int32)) G.hx G.hb (dcs_get dec_X11_sure_0 10 rfl) (by decide) ?_
        refine lv_icmp_gt (tgt := 43) G.hx G.hb (dcs_get dec_X11_sure_0 11 rfl) (by decide) (fun hc => ?_) (fun hc => ?_)
        · rw [if_pos hc] at hf
          exact B_X11_sure_43  σ G hm  hf  w (lv_sub hl [] rfl)
        · rw [if_neg hc] at hf
          refine lv_iload_n G.hx G.hb (dcs_get dec_X11_sure_0 12 rfl) rfl (lv_at hl 0 rfl) ?_
          refine lv_if_lt (tgt := 43) G.hx G.hb (dcs_get dec_X11_sure_0 13 rfl) (by decide) (fun hc => ?_) (fun hc => ?_)
          · rw [if_pos hc] at hf
            exact B_X11_sure_43  σ G hm  hf  w (lv_sub hl [] rfl)
          · rw [if_neg hc] at hf
            refine lv_iload_n G.hx G.hb (dcs_get dec_X11_sure_0 14 rfl) rfl (lv_at hl 0 rfl) ?_
            refine lv_iload_n G.hx G.hb (dcs_get dec_X11_sure_0 15 rfl) rfl (lv_at hl 1 rfl) ?_
            refine lv_icmp_gt (tgt := 43) G.hx G.hb (dcs_get dec_X11_sure_0 16 rfl) (by decide) (fun hc => ?_) (fun hc => ?_)
            · rw [if_pos hc] at hf
              exact B_X11_sure_43  σ G hm  hf  w (lv_sub hl [] rfl)
            · rw [if_neg hc] at hf
              refine lv_iload_n G.hx G.hb (dcs_get dec_X11_sure_0 17 rfl) rfl (lv_at hl 2 rfl) ?_
              refine lv_if_lt (tgt := 43) G.hx G.hb (dcs_get dec_X11_sure_0 18 rfl) (by decide) (fun hc => ?_) (fun hc => ?_)
              · rw [if_pos hc] at hf
                exact B_X11_sure_43  σ G hm  hf  w (lv_sub hl [] rfl)
              · rw [if_neg hc] at hf
                refine lv_iload_n G.hx G.hb (dcs_get dec_X11_sure_0 19 rfl) rfl (lv_at hl 2 rfl) ?_
                refine lv_iload G.hx G.hb (dcs_get dec_X11_sure_0 20 rfl) (lv_at hl 3 rfl) ?_
                refine lv_icmp_le (tgt := 45) G.hx G.hb (dcs_get dec_X11_sure_0 21 rfl) (by decide) (fun hc => ?_) (fun hc => ?_)
                · rw [if_pos hc] at hf
                  refine lv_lconst (v := (1 : Int64)) G.hx G.hb (dcs_get dec_X11_sure_0 24 rfl) (by decide) ?_
                  refine lv_lstore (lv' := [(5, .long (1 : Int64)), (1, .int l1), (2, .int l2), (3, .int l3), (4, .int l4)]) G.hx G.hb (dcs_get dec_X11_sure_0 25 rfl) hl (by decide) rfl (fun ls hl => ?_)
                  refine lv_lconst (v := (1 : Int64)) G.hx G.hb (dcs_get dec_X11_sure_0 26 rfl) (by decide) ?_
                  refine lv_lstore (lv' := [(7, .long (1 : Int64)), (5, .long (1 : Int64)), (1, .int l1), (2, .int l2), (3, .int l3), (4, .int l4)]) G.hx G.hb (dcs_get dec_X11_sure_0 27 rfl) hl (by decide) rfl (fun ls hl => ?_)
                  refine lv_iconst (v := (1 : Int32)) G.hx G.hb (dcs_get dec_X11_sure_0 28 rfl) (by decide) ?_
                  refine lv_istore (lv' := [(9, .int (1 : Int32)), (7, .long (1 : Int64)), (5, .long (1 : Int64)), (1, .int l1), (2, .int l2), (3, .int l3), (4, .int l4)]) G.hx G.hb (dcs_get dec_X11_sure_0 29 rfl) hl (by decide) rfl (fun ls hl => ?_)
                  exact B_X11_sure_54 l1 l2 l3 l4 (1 : Int64) (1 : Int64) (1 : Int32) σ G hm  hf  w (lv_sub hl [3, 4, 5, 6, 2, 1, 0] rfl)
                · rw [if_neg hc] at hf
                  exact B_X11_sure_43  σ G hm  hf  w (lv_sub hl [] rfl)
end
set_option maxRecDepth 100000 in
set_option maxHeartbeats 4000000 in
theorem C_X11_sure {l : Launch} {D : va_G} {ay : Nat → ClassId} {ad : Nat → Nat} (hi : hInj NC ad) (a0 : Nat) (l1 : Int32) (l2 : Int32) (l3 : Int32) (l4 : Int32) (σ : hSt) {r0 : Int32} (hf : F_X11_sure a0 l1 l2 l3 l4 σ = some r0) (ok_a0 : okr kC NC 11 a0 = true) : hM l D ay kC NC ad yX11_sure cX11_sure 10 ((some .int)) (rmK 0 0) [.ref (ad a0), .int l1, .int l2, .int l3, .int l4] σ (cI D ay kC NC ad r0 σ) := by
  unfold F_X11_sure at hf
  refine hM_in (by decide) hi (Nat.le_of_ble_eq_true rfl) ?_
  intro p e s m below meth c G hm w ls hl
  exact B_X11_sure_0 l1 l2 l3 l4 σ G hm  hf w (lv_sub hl [1, 2, 3, 4] rfl)

/-! HillDrums.tell(III)I -/
def DL_X11_tell_0 : List (Nat × Instr × Nat) := [(0, .aload_n 0, 1), (1, .iload_n 1, 1), (2, .invokevirtual 120, 3), (5, .ifCond .eq 33, 3), (8, .aload_n 0, 1), (9, .iload_n 2, 1), (10, .invokevirtual 128, 3), (13, .ifCond .eq 25, 3), (16, .iload_n 3, 1), (17, .ifCond .lt 21, 3), (20, .iload_n 3, 1), (21, .bipush 99, 2), (23, .if_icmp .gt 15, 3), (26, .aload_n 0, 1), (27, .getfield 66, 3), (30, .getfield 113, 3), (33, .bipush 20, 2), (35, .if_icmp .lt 5, 3), (38, .iconst (-1), 1), (39, .ireturn, 1), (40, .aload_n 0, 1), (41, .getfield 66, 3), (44, .iload_n 1, 1), (45, .iload_n 2, 1), (46, .iload_n 3, 1), (47, .invokevirtual 251, 3), (50, .ireturn, 1)]
set_option maxRecDepth 100000 in
theorem dec_X11_tell_0 : dcs cX11_tell DL_X11_tell_0 = true := by decide +kernel
theorem lb_X11_tell : lkB yX11_tell cX11_tell 4 ((some .int)) 3 := ⟨q_947, q_1, ⟨by decide, by decide⟩, by decide +kernel⟩
theorem lv_X11_tell : lkV yX11_tell := ⟨q_945, q_946⟩
def F_X11_tell_38  (σ : hSt) : Option (Int32 × hSt) :=
some (((-1 : Int32), σ))
def F_X11_tell (a0 : Nat) (l1 : Int32) (l2 : Int32) (l3 : Int32) (σ : hSt) : Option (Int32 × hSt) :=
(F_X11_isHill a0 l1 σ).bind fun v2 =>
if v2 = 0 then (
F_X11_tell_38  σ) else (
(F_X11_isNews a0 l2 σ).bind fun v4 =>
if v4 = 0 then (
F_X11_tell_38  σ) else (
if l3 < 0 then (
F_X11_tell_38  σ) else (
if (99 : Int32) < l3 then (
F_X11_tell_38  σ) else (
cR (σ.2.2 a0 10) (okr kC NC 9) fun z5 =>
if (σ.1 z5 3) < (20 : Int32) then (
cR (σ.2.2 a0 10) (okr kC NC 9) fun z6 =>
cC (F_X9_add z6 l1 l2 l3 σ) fun v8 σ9 =>
some ((v8, σ9))) else (
F_X11_tell_38  σ)))))
section
variable {p : Program} {l : Launch} {e : Env} {s : State} {m : MethodId} {args : Array Value} {below : List Frame} {meth : Method} {c : Code} {D : va_G} {ay : Nat → ClassId} {ad : Nat → Nat}
set_option maxRecDepth 100000 in
set_option maxHeartbeats 4000000 in
theorem B_X11_tell_38 {H : Heap} {locs : List Loc} {ls : Array Slot} {r0 : Int32} {σ0 : hSt}  (σ : hSt) (G : Gx p m c cX11_tell 4 s args RX11 D ay NC ad (aN NC ad)) (hm : meth.sig.returnType = (some .int) ∧ meth.locks = false)  (hf : F_X11_tell_38  σ = some (r0, σ0))  (w : Wd D ay kC NC ad (aN NC ad) s σ H locs) (hl : lv_has ls 4 []) : W p l e (rmK 1 23) s m args below meth c H locs 0 0 (MQ below (cI D ay kC NC ad r0 σ0) args s 0 0 (aN NC ad)) (F0 m 38 ls []) := by
  unfold F_X11_tell_38 at hf
  refine lv_iconst (v := (-1 : Int32)) G.hx G.hb (dcs_get dec_X11_tell_0 18 rfl) (by decide) ?_
  have e9 := Option.some.inj hf
  exact r_iret G w hm (congrArg Prod.fst e9) (congrArg Prod.snd e9) (dcs_get dec_X11_tell_0 19 rfl)
set_option maxRecDepth 100000 in
set_option maxHeartbeats 4000000 in
theorem B_X11_tell_0 {H : Heap} {locs : List Loc} {ls : Array Slot} {r0 : Int32} {σ0 : hSt} (a0 : Nat) (l1 : Int32) (l2 : Int32) (l3 : Int32) (σ : hSt) (G : Gx p m c cX11_tell 4 s args RX11 D ay NC ad (aN NC ad)) (hm : meth.sig.returnType = (some .int) ∧ meth.locks = false) (ok_a0 : okr kC NC 11 a0 = true) (hf : F_X11_tell a0 l1 l2 l3 σ = some (r0, σ0))  (w : Wd D ay kC NC ad (aN NC ad) s σ H locs) (hl : lv_has ls 4 [(0, .ref (ad a0)), (1, .int l1), (2, .int l2), (3, .int l3)]) : W p l e (rmK 1 23) s m args below meth c H locs 0 0 (MQ below (cI D ay kC NC ad r0 σ0) args s 0 0 (aN NC ad)) (F0 m 0 ls []) := by
  have k_a0 := okr_in ok_a0
  unfold F_X11_tell at hf
  refine lv_aload_n G.hx G.hb (dcs_get dec_X11_tell_0 0 rfl) rfl (lv_at hl 0 rfl) ?_
  refine lv_iload_n G.hx G.hb (dcs_get dec_X11_tell_0 1 rfl) rfl (lv_at hl 1 rfl) ?_
  obtain ⟨v2, h1, hf⟩ := cB_some hf
  refine a_i (k_V (As := [.int l1]) (rest := []) cls11 lb_X11_isHill lv_X11_isHill q_686 (C_X11_isHill G.2.2.1 a0 l1 σ h1 ok_a0) ⟨(Nat.le_of_ble_eq_true rfl), (Nat.le_of_ble_eq_true rfl)⟩ G w k_a0.1 k_a0.2 rfl rfl hl.1 (Nat.le_of_ble_eq_true rfl) (dcs_get dec_X11_tell_0 2 rfl) ⟨Nat.le_refl _, Nat.le_refl _⟩) G w (fun H locs w => ?_)
  refine lv_if_eq (tgt := 38) G.hx G.hb (dcs_get dec_X11_tell_0 3 rfl) (by decide) (fun hc => ?_) (fun hc => ?_)
  · rw [if_pos hc] at hf
    exact B_X11_tell_38  σ G hm  hf  w (lv_sub hl [] rfl)
  · rw [if_neg hc] at hf
    refine lv_aload_n G.hx G.hb (dcs_get dec_X11_tell_0 4 rfl) rfl (lv_at hl 0 rfl) ?_
    refine lv_iload_n G.hx G.hb (dcs_get dec_X11_tell_0 5 rfl) rfl (lv_at hl 2 rfl) ?_
    obtain ⟨v4, h3, hf⟩ := cB_some hf
    refine a_i (k_V (As := [.int l2]) (rest := []) cls11 lb_X11_isNews lv_X11_isNews q_720 (C_X11_isNews G.2.2.1 a0 l2 σ h3 ok_a0) ⟨(Nat.le_of_ble_eq_true rfl), (Nat.le_of_ble_eq_true rfl)⟩ G w k_a0.1 k_a0.2 rfl rfl hl.1 (Nat.le_of_ble_eq_true rfl) (dcs_get dec_X11_tell_0 6 rfl) ⟨Nat.le_refl _, Nat.le_refl _⟩) G w (fun H locs w => ?_)
    refine lv_if_eq (tgt := 38) G.hx G.hb (dcs_get dec_X11_tell_0 7 rfl) (by decide) (fun hc => ?_) (fun hc => ?_)
    · rw [if_pos hc] at hf
      exact B_X11_tell_38  σ G hm  hf  w (lv_sub hl [] rfl)
    · rw [if_neg hc] at hf
      refine lv_iload_n G.hx G.hb (dcs_get dec_X11_tell_0 8 rfl) rfl (lv_at hl 3 rfl) ?_
      refine lv_if_lt (tgt := 38) G.hx G.hb (dcs_get dec_X11_tell_0 9 rfl) (by decide) (fun hc => ?_) (fun hc => ?_)
      · rw [if_pos hc] at hf
        exact B_X11_tell_38  σ G hm  hf  w (lv_sub hl [] rfl)
      · rw [if_neg hc] at hf
        refine lv_iload_n G.hx G.hb (dcs_get dec_X11_tell_0 10 rfl) rfl (lv_at hl 3 rfl) ?_
        refine lv_bipush (v := (99 : Int32)) G.hx G.hb (dcs_get dec_X11_tell_0 11 rfl) (by decide) ?_
        refine lv_icmp_gt (tgt := 38) G.hx G.hb (dcs_get dec_X11_tell_0 12 rfl) (by decide) (fun hc => ?_) (fun hc => ?_)
        · rw [if_pos hc] at hf
          exact B_X11_tell_38  σ G hm  hf  w (lv_sub hl [] rfl)
        · rw [if_neg hc] at hf
          refine lv_aload_n G.hx G.hb (dcs_get dec_X11_tell_0 13 rfl) rfl (lv_at hl 0 rfl) ?_
          obtain ⟨z5, e_z5, ok_z5, hf⟩ := cR_some hf
          have k_z5 := okr_in ok_z5
          refine r_getr (k := 10) cls11 fi_11_10.1 fi_11_10.2 q_401 G w k_a0.1 k_a0.2 e_z5 (dcs_get dec_X11_tell_0 14 rfl) ?_
          refine r_getiN (k := 3) cls9 fi_9_3.1 fi_9_3.2 nf_312 G w k_z5.1 k_z5.2 (dcs_get dec_X11_tell_0 15 rfl) ?_
          refine lv_bipush (v := (20 : Int32)) G.hx G.hb (dcs_get dec_X11_tell_0 16 rfl) (by decide) ?_
          refine lv_icmp_lt (tgt := 40) G.hx G.hb (dcs_get dec_X11_tell_0 17 rfl) (by decide) (fun hc => ?_) (fun hc => ?_)
          · rw [if_pos hc] at hf
            refine lv_aload_n G.hx G.hb (dcs_get dec_X11_tell_0 20 rfl) rfl (lv_at hl 0 rfl) ?_
            obtain ⟨z6, e_z6, ok_z6, hf⟩ := cR_some hf
            have k_z6 := okr_in ok_z6
            refine r_getr (k := 10) cls11 fi_11_10.1 fi_11_10.2 q_401 G w k_a0.1 k_a0.2 e_z6 (dcs_get dec_X11_tell_0 21 rfl) ?_
            refine lv_iload_n G.hx G.hb (dcs_get dec_X11_tell_0 22 rfl) rfl (lv_at hl 1 rfl) ?_
            refine lv_iload_n G.hx G.hb (dcs_get dec_X11_tell_0 23 rfl) rfl (lv_at hl 2 rfl) ?_
            refine lv_iload_n G.hx G.hb (dcs_get dec_X11_tell_0 24 rfl) rfl (lv_at hl 3 rfl) ?_
            obtain ⟨v8, σ9, h7, hf⟩ := cC_some hf
            refine a_i (k_VN (As := [.int l1, .int l2, .int l3]) (rest := []) cls9 lb_X9_add lv_X9_add nm_948 (C_X9_add G.2.2.1 z6 l1 l2 l3 σ h7 ok_z6) ⟨(Nat.le_of_ble_eq_true rfl), (Nat.le_of_ble_eq_true rfl)⟩ G w k_z6.1 k_z6.2 rfl rfl hl.1 (Nat.le_of_ble_eq_true rfl) (dcs_get dec_X11_tell_0 25 rfl) ⟨Nat.le_refl _, Nat.le_refl _⟩) G w (fun H locs w => ?_)
            have e9 := Option.some.inj hf
            exact r_iret G w hm (congrArg Prod.fst e9) (congrArg Prod.snd e9) (dcs_get dec_X11_tell_0 26 rfl)
          · rw [if_neg hc] at hf
            exact B_X11_tell_38  σ G hm  hf  w (lv_sub hl [] rfl)
end
set_option maxRecDepth 100000 in
set_option maxHeartbeats 4000000 in
theorem C_X11_tell {l : Launch} {D : va_G} {ay : Nat → ClassId} {ad : Nat → Nat} (hi : hInj NC ad) (a0 : Nat) (l1 : Int32) (l2 : Int32) (l3 : Int32) (σ : hSt) {r0 : Int32} {σ0 : hSt} (hf : F_X11_tell a0 l1 l2 l3 σ = some (r0, σ0)) (ok_a0 : okr kC NC 11 a0 = true) : hM l D ay kC NC ad yX11_tell cX11_tell 4 ((some .int)) (rmK 1 23) [.ref (ad a0), .int l1, .int l2, .int l3] σ (cI D ay kC NC ad r0 σ0) := by
  refine hM_in (by decide) hi (Nat.le_of_ble_eq_true rfl) ?_
  intro p e s m below meth c G hm w ls hl
  exact B_X11_tell_0 a0 l1 l2 l3 σ G hm ok_a0 hf w (lv_sub hl [0, 1, 2, 3] rfl)

/-! HillDrums.forget()I -/
def DL_X11_forget_0 : List (Nat × Instr × Nat) := [(0, .aload_n 0, 1), (1, .getfield 66, 3), (4, .getfield 113, 3), (7, .istore_n 1, 1), (8, .aload_n 0, 1), (9, .getfield 66, 3), (12, .iconst 0, 1), (13, .putfield 113, 3), (16, .iload_n 1, 1), (17, .ireturn, 1)]
set_option maxRecDepth 100000 in
theorem dec_X11_forget_0 : dcs cX11_forget DL_X11_forget_0 = true := by decide +kernel
theorem lb_X11_forget : lkB yX11_forget cX11_forget 2 ((some .int)) 0 := ⟨q_955, q_1, ⟨by decide, by decide⟩, by decide +kernel⟩
theorem lv_X11_forget : lkV yX11_forget := ⟨q_953, q_954⟩
def F_X11_forget (a0 : Nat) (σ : hSt) : Option (Int32 × hSt) :=
cR (σ.2.2 a0 10) (okr kC NC 9) fun z1 =>
cL (σ.1 z1 3) fun v2 =>
cR (σ.2.2 a0 10) (okr kC NC 9) fun z3 =>
cL (uI σ z3 3 (0 : Int32)) fun σ4 =>
some ((v2, σ4))
section
variable {p : Program} {l : Launch} {e : Env} {s : State} {m : MethodId} {args : Array Value} {below : List Frame} {meth : Method} {c : Code} {D : va_G} {ay : Nat → ClassId} {ad : Nat → Nat}
set_option maxRecDepth 100000 in
set_option maxHeartbeats 4000000 in
theorem B_X11_forget_0 {H : Heap} {locs : List Loc} {ls : Array Slot} {r0 : Int32} {σ0 : hSt} (a0 : Nat) (σ : hSt) (G : Gx p m c cX11_forget 2 s args RX11 D ay NC ad (aN NC ad)) (hm : meth.sig.returnType = (some .int) ∧ meth.locks = false) (ok_a0 : okr kC NC 11 a0 = true) (hf : F_X11_forget a0 σ = some (r0, σ0))  (w : Wd D ay kC NC ad (aN NC ad) s σ H locs) (hl : lv_has ls 2 [(0, .ref (ad a0))]) : W p l e (rmK 0 0) s m args below meth c H locs 0 0 (MQ below (cI D ay kC NC ad r0 σ0) args s 0 0 (aN NC ad)) (F0 m 0 ls []) := by
  have k_a0 := okr_in ok_a0
  unfold F_X11_forget at hf
  refine lv_aload_n G.hx G.hb (dcs_get dec_X11_forget_0 0 rfl) rfl (lv_at hl 0 rfl) ?_
  obtain ⟨z1, e_z1, ok_z1, hf⟩ := cR_some hf
  have k_z1 := okr_in ok_z1
  refine r_getr (k := 10) cls11 fi_11_10.1 fi_11_10.2 q_401 G w k_a0.1 k_a0.2 e_z1 (dcs_get dec_X11_forget_0 1 rfl) ?_
  refine r_getiN (k := 3) cls9 fi_9_3.1 fi_9_3.2 nf_312 G w k_z1.1 k_z1.2 (dcs_get dec_X11_forget_0 2 rfl) ?_
  obtain ⟨v2, e_v2, hf⟩ := cL_some hf
  refine r_topi e_v2 ?_
  refine lv_istore_n (lv' := [(1, .int v2), (0, .ref (ad a0))]) G.hx G.hb (dcs_get dec_X11_forget_0 3 rfl) rfl hl (by decide) rfl (fun ls hl => ?_)
  refine lv_aload_n G.hx G.hb (dcs_get dec_X11_forget_0 4 rfl) rfl (lv_at hl 1 rfl) ?_
  obtain ⟨z3, e_z3, ok_z3, hf⟩ := cR_some hf
  have k_z3 := okr_in ok_z3
  refine r_getr (k := 10) cls11 fi_11_10.1 fi_11_10.2 q_401 G w k_a0.1 k_a0.2 e_z3 (dcs_get dec_X11_forget_0 5 rfl) ?_
  refine lv_iconst (v := (0 : Int32)) G.hx G.hb (dcs_get dec_X11_forget_0 6 rfl) (by decide) ?_
  obtain ⟨σ4, e_σ4, hf⟩ := cL_some hf
  refine r_putiN (k := 3) cls9 ct9 fi_9_3.1 fi_9_3.2 fp_9_3.1 fp_9_3.2 nf_312 rfl rfl G w k_z3.1 k_z3.2 (dcs_get dec_X11_forget_0 7 rfl) (fun H locs w => ?_)
  have w := Wd.nm e_σ4 w
  refine lv_iload_n G.hx G.hb (dcs_get dec_X11_forget_0 8 rfl) rfl (lv_at hl 0 rfl) ?_
  have e9 := Option.some.inj hf
  exact r_iret G w hm (congrArg Prod.fst e9) (congrArg Prod.snd e9) (dcs_get dec_X11_forget_0 9 rfl)
end
set_option maxRecDepth 100000 in
set_option maxHeartbeats 4000000 in
theorem C_X11_forget {l : Launch} {D : va_G} {ay : Nat → ClassId} {ad : Nat → Nat} (hi : hInj NC ad) (a0 : Nat) (σ : hSt) {r0 : Int32} {σ0 : hSt} (hf : F_X11_forget a0 σ = some (r0, σ0)) (ok_a0 : okr kC NC 11 a0 = true) : hM l D ay kC NC ad yX11_forget cX11_forget 2 ((some .int)) (rmK 0 0) [.ref (ad a0)] σ (cI D ay kC NC ad r0 σ0) := by
  refine hM_in (by decide) hi (Nat.le_of_ble_eq_true rfl) ?_
  intro p e s m below meth c G hm w ls hl
  exact B_X11_forget_0 a0 σ G hm ok_a0 hf w (lv_sub hl [0] rfl)

/-! HillDrums.beginners(II)I -/
def DL_X11_beginners_0 : List (Nat × Instr × Nat) := [(0, .aload_n 0, 1), (1, .iload_n 1, 1), (2, .invokevirtual 128, 3), (5, .ifCond .eq 18, 3), (8, .iload_n 2, 1), (9, .ifCond .lt 14, 3), (12, .iload_n 2, 1), (13, .aload_n 0, 1), (14, .getfield 66, 3), (17, .getfield 113, 3), (20, .if_icmp .le 5, 3), (23, .iconst (-1), 1), (24, .ireturn, 1), (25, .aload_n 0, 1), (26, .getfield 66, 3), (29, .iload_n 1, 1), (30, .iload_n 2, 1), (31, .invokevirtual 253, 3), (34, .istore_n 3, 1), (35, .iconst 0, 1), (36, .istore 4, 2), (38, .iconst 0, 1), (39, .istore 5, 2), (41, .iload 5, 2), (43, .aload_n 0, 1), (44, .getfield 19, 3), (47, .getfield 114, 3), (50, .if_icmp .ge 89, 3), (53, .aload_n 0, 1), (54, .getfield 46, 3), (57, .aload_n 0, 1), (58, .getfield 19, 3), (61, .invokevirtual 87, 3), (64, .aload_n 0, 1), (65, .getfield 46, 3), (68, .iload 5, 2), (70, .iload_n 1, 1), (71, .invokevirtual 256, 3), (74, .iconst 0, 1), (75, .istore 6, 2)]
set_option maxRecDepth 100000 in
theorem dec_X11_beginners_0 : dcs cX11_beginners DL_X11_beginners_0 = true := by decide +kernel
def DL_X11_beginners_1 : List (Nat × Instr × Nat) := [(77, .iload 6, 2), (79, .iload_n 3, 1), (80, .if_icmp .ge 28, 3), (83, .aload_n 0, 1), (84, .getfield 46, 3), (87, .aload_n 0, 1), (88, .getfield 19, 3), (91, .aload_n 0, 1), (92, .getfield 19, 3), (95, .getfield 185, 3), (98, .iconst (-1), 1), (99, .invokevirtual 202, 3), (102, .iinc 6 1, 3), (105, .goto (-28), 3), (108, .aload_n 0, 1), (109, .getfield 66, 3), (112, .aload_n 0, 1), (113, .getfield 46, 3), (116, .iload_n 1, 1), (117, .iload_n 2, 1), (118, .invokevirtual 260, 3), (121, .ifCond .eq 12, 3), (124, .iload 4, 2), (126, .iconst 1, 1), (127, .iload 5, 2), (129, .ishl, 1), (130, .ior, 1), (131, .istore 4, 2), (133, .iinc 5 1, 3), (136, .goto (-95), 3), (139, .iload 4, 2), (141, .ireturn, 1)]
set_option maxRecDepth 100000 in
theorem dec_X11_beginners_1 : dcs cX11_beginners DL_X11_beginners_1 = true := by decide +kernel
theorem lb_X11_beginners : lkB yX11_beginners cX11_beginners 7 ((some .int)) 2 := ⟨q_959, q_1, ⟨by decide, by decide⟩, by decide +kernel⟩
theorem lv_X11_beginners : lkV yX11_beginners := ⟨q_957, q_958⟩
def F_X11_beginners_23  (σ : hSt) : Option (Int32 × hSt) :=
some (((-1 : Int32), σ))
def F_X11_beginners_133 (a0 : Nat) (l1 : Int32) (l2 : Int32) (l3 : Int32) (l4 : Int32) (l5 : Int32) (σ : hSt) : Option ((Int32 × Int32 × hSt) ⊕ (Int32 × hSt)) :=
cL (l5 + (1 : Int32)) fun v1 =>
some (.inl (l4, v1, σ))
def F_X11_beginners_77b (a0 : Nat) (l1 : Int32) (l2 : Int32) (l3 : Int32) (l4 : Int32) (l5 : Int32) (l6 : Int32) (σ : hSt) : Option ((Int32 × hSt) ⊕ ((Int32 × Int32 × hSt) ⊕ (Int32 × hSt))) :=
if l3 ≤ l6 then (
cR (σ.2.2 a0 10) (okr kC NC 9) fun z2 =>
cR (σ.2.2 a0 6) (okr kC NC 10) fun z3 =>
(F_X9_isSo z2 z3 l1 l2 σ).bind fun v5 =>
if v5 = 0 then (
(F_X11_beginners_133 a0 l1 l2 l3 l4 l5 σ).map (fun x => .inr (x))) else (
cL (l4 ||| ((1 : Int32) <<< (l5 &&& 31))) fun v6 =>
(F_X11_beginners_133 a0 l1 l2 l3 v6 l5 σ).map (fun x => .inr (x)))) else (
cR (σ.2.2 a0 6) (okr kC NC 10) fun z7 =>
cR (σ.2.2 a0 1) (okr kC NC 7) fun z8 =>
cR (σ.2.2 a0 1) (okr kC NC 7) fun z9 =>
(F_X10_passDay z7 z8 (σ.1 z9 8) (-1 : Int32) σ).bind fun σ11 =>
cL (l6 + (1 : Int32)) fun v12 =>
some (.inl (v12, σ11)))
def S_X11_beginners_77 (a0 : Nat) (l1 : Int32) (l2 : Int32) (l3 : Int32) (l4 : Int32) (l5 : Int32) (v : Int32 × hSt) : Option ((Int32 × hSt) ⊕ ((Int32 × Int32 × hSt) ⊕ (Int32 × hSt))) := F_X11_beginners_77b a0 l1 l2 l3 l4 l5 v.1 v.2
def F_X11_beginners_77 (a0 : Nat) (l1 : Int32) (l2 : Int32) (l3 : Int32) (l4 : Int32) (l5 : Int32) (l6 : Int32) (σ : hSt) : Option ((Int32 × Int32 × hSt) ⊕ (Int32 × hSt)) := lp (S_X11_beginners_77 a0 l1 l2 l3 l4 l5) fuel (l6, σ)
def F_X11_beginners_41b (a0 : Nat) (l1 : Int32) (l2 : Int32) (l3 : Int32) (l4 : Int32) (l5 : Int32) (σ : hSt) : Option ((Int32 × Int32 × hSt) ⊕ (Int32 × hSt)) :=
cR (σ.2.2 a0 1) (okr kC NC 7) fun z13 =>
if (σ.1 z13 0) ≤ l5 then (
some (.inr ((l4, σ)))) else (
cR (σ.2.2 a0 6) (okr kC NC 10) fun z14 =>
cR (σ.2.2 a0 1) (okr kC NC 7) fun z15 =>
(F_X10_begin z14 z15 σ).bind fun σ17 =>
cR (σ17.2.2 a0 6) (okr kC NC 10) fun z18 =>
(F_X10_beginAt z18 l5 l1 σ17).bind fun σ20 =>
F_X11_beginners_77 a0 l1 l2 l3 l4 l5 (0 : Int32) σ20)
def S_X11_beginners_41 (a0 : Nat) (l1 : Int32) (l2 : Int32) (l3 : Int32) (v : Int32 × Int32 × hSt) : Option ((Int32 × Int32 × hSt) ⊕ (Int32 × hSt)) := F_X11_beginners_41b a0 l1 l2 l3 v.1 v.2.1 v.2.2
def F_X11_beginners_41 (a0 : Nat) (l1 : Int32) (l2 : Int32) (l3 : Int32) (l4 : Int32) (l5 : Int32) (σ : hSt) : Option (Int32 × hSt) := lp (S_X11_beginners_41 a0 l1 l2 l3) fuel (l4, l5, σ)
def F_X11_beginners (a0 : Nat) (l1 : Int32) (l2 : Int32) (σ : hSt) : Option (Int32 × hSt) :=
(F_X11_isNews a0 l1 σ).bind fun v22 =>
if v22 = 0 then (
F_X11_beginners_23  σ) else (
if l2 < 0 then (
F_X11_beginners_23  σ) else (
cR (σ.2.2 a0 10) (okr kC NC 9) fun z23 =>
if l2 ≤ (σ.1 z23 3) then (
cR (σ.2.2 a0 10) (okr kC NC 9) fun z24 =>
(F_X9_daysNeeded z24 l1 l2 σ).bind fun v26 =>
F_X11_beginners_41 a0 l1 l2 v26 (0 : Int32) (0 : Int32) σ) else (
F_X11_beginners_23  σ)))
section
variable {p : Program} {l : Launch} {e : Env} {s : State} {m : MethodId} {args : Array Value} {below : List Frame} {meth : Method} {c : Code} {D : va_G} {ay : Nat → ClassId} {ad : Nat → Nat}
set_option maxRecDepth 100000 in
set_option maxHeartbeats 4000000 in
theorem B_X11_beginners_23 {H : Heap} {locs : List Loc} {ls : Array Slot} {r0 : Int32} {σ0 : hSt}  (σ : hSt) (G : Gx p m c cX11_beginners 7 s args RX11 D ay NC ad (aN NC ad)) (hm : meth.sig.returnType = (some .int) ∧ meth.locks = false)  (hf : F_X11_beginners_23  σ = some (r0, σ0))  (w : Wd D ay kC NC ad (aN NC ad) s σ H locs) (hl : lv_has ls 7 []) : W p l e (rmK 6 148) s m args below meth c H locs 0 0 (MQ below (cI D ay kC NC ad r0 σ0) args s 0 0 (aN NC ad)) (F0 m 23 ls []) := by
  unfold F_X11_beginners_23 at hf
  refine lv_iconst (v := (-1 : Int32)) G.hx G.hb (dcs_get dec_X11_beginners_0 11 rfl) (by decide) ?_
  have e9 := Option.some.inj hf
  exact r_iret G w hm (congrArg Prod.fst e9) (congrArg Prod.snd e9) (dcs_get dec_X11_beginners_0 12 rfl)
set_option maxRecDepth 100000 in
set_option maxHeartbeats 4000000 in
theorem B_X11_beginners_133 {H : Heap} {locs : List Loc} {ls : Array Slot} {r0 : Int32} {σ0 : hSt} {o : (Int32 × Int32 × hSt) ⊕ (Int32 × hSt)} (a0 : Nat) (l1 : Int32) (l2 : Int32) (l3 : Int32) (l4 : Int32) (l5 : Int32) (σ : hSt) (G : Gx p m c cX11_beginners 7 s args RX11 D ay NC ad (aN NC ad)) (hm : meth.sig.returnType = (some .int) ∧ meth.locks = false) (ok_a0 : okr kC NC 11 a0 = true) (hf : F_X11_beginners_133 a0 l1 l2 l3 l4 l5 σ = some o) (hb0 : ∀ (v : Int32 × Int32 × hSt), o = .inl v → ∀ (H : Heap) (locs : List Loc) (ls : Array Slot), Wd D ay kC NC ad (aN NC ad) s v.2.2 H locs → lv_has ls 7 [(0, .ref (ad a0)), (1, .int l1), (2, .int l2), (3, .int l3), (4, .int v.1), (5, .int v.2.1)] → W p l e (rmK 6 148) s m args below meth c H locs 0 0 (MQ below (cI D ay kC NC ad r0 σ0) args s 0 0 (aN NC ad)) (F0 m 41 ls [])) (hr : ∀ x, o = .inr (x) → x = (r0, σ0)) (w : Wd D ay kC NC ad (aN NC ad) s σ H locs) (hl : lv_has ls 7 [(0, .ref (ad a0)), (1, .int l1), (2, .int l2), (3, .int l3), (4, .int l4), (5, .int l5)]) : W p l e (rmK 6 148) s m args below meth c H locs 0 0 (MQ below (cI D ay kC NC ad r0 σ0) args s 0 0 (aN NC ad)) (F0 m 133 ls []) := by
  have k_a0 := okr_in ok_a0
  unfold F_X11_beginners_133 at hf
  obtain ⟨v1, e_v1, hf⟩ := cL_some hf
  refine lv_iinc (v := v1) (lv' := [(5, .int v1), (0, .ref (ad a0)), (1, .int l1), (2, .int l2), (3, .int l3), (4, .int l4)]) G.hx G.hb (dcs_get dec_X11_beginners_1 28 rfl) hl (k := 5) rfl (by rw [e_v1]; rfl) (by decide) rfl (fun ls hl => ?_)
  refine lv_goto (tgt := 41) G.hx G.hb (dcs_get dec_X11_beginners_1 29 rfl) (by decide) ?_
  exact hb0 _ (Option.some.inj hf).symm _ _ _ w (lv_sub hl [1, 2, 3, 4, 5, 0] rfl)
set_option maxRecDepth 100000 in
set_option maxHeartbeats 4000000 in
theorem B_X11_beginners_77b {H : Heap} {locs : List Loc} {ls : Array Slot} {r0 : Int32} {σ0 : hSt} {o : (Int32 × hSt) ⊕ ((Int32 × Int32 × hSt) ⊕ (Int32 × hSt))} (a0 : Nat) (l1 : Int32) (l2 : Int32) (l3 : Int32) (l4 : Int32) (l5 : Int32) (l6 : Int32) (σ : hSt) (G : Gx p m c cX11_beginners 7 s args RX11 D ay NC ad (aN NC ad)) (hm : meth.sig.returnType = (some .int) ∧ meth.locks = false) (ok_a0 : okr kC NC 11 a0 = true) (hf : F_X11_beginners_77b a0 l1 l2 l3 l4 l5 l6 σ = some o) (hb0 : ∀ (v : Int32 × Int32 × hSt), o = .inr (.inl v) → ∀ (H : Heap) (locs : List Loc) (ls : Array Slot), Wd D ay kC NC ad (aN NC ad) s v.2.2 H locs → lv_has ls 7 [(0, .ref (ad a0)), (1, .int l1), (2, .int l2), (3, .int l3), (4, .int v.1), (5, .int v.2.1)] → W p l e (rmK 6 148) s m args below meth c H locs 0 0 (MQ below (cI D ay kC NC ad r0 σ0) args s 0 0 (aN NC ad)) (F0 m 41 ls [])) (hb1 : ∀ (v : Int32 × hSt), o = .inl v → ∀ (H : Heap) (locs : List Loc) (ls : Array Slot), Wd D ay kC NC ad (aN NC ad) s v.2 H locs → lv_has ls 7 [(0, .ref (ad a0)), (1, .int l1), (2, .int l2), (3, .int l3), (4, .int l4), (5, .int l5), (6, .int v.1)] → W p l e (rmK 6 148) s m args below meth c H locs 0 0 (MQ below (cI D ay kC NC ad r0 σ0) args s 0 0 (aN NC ad)) (F0 m 77 ls [])) (hr : ∀ x, o = .inr (.inr (x)) → x = (r0, σ0)) (w : Wd D ay kC NC ad (aN NC ad) s σ H locs) (hl : lv_has ls 7 [(0, .ref (ad a0)), (1, .int l1), (2, .int l2), (3, .int l3), (4, .int l4), (5, .int l5), (6, .int l6)]) : W p l e (rmK 6 148) s m args below meth c H locs 0 0 (MQ below (cI D ay kC NC ad r0 σ0) args s 0 0 (aN NC ad)) (F0 m 77 ls []) := by
  have k_a0 := okr_in ok_a0
  unfold F_X11_beginners_77b at hf
  refine lv_iload G.hx G.hb (dcs_get dec_X11_beginners_1 0 rfl) (lv_at hl 6 rfl) ?_
  refine lv_iload_n G.hx G.hb (dcs_get dec_X11_beginners_1 1 rfl) rfl (lv_at hl 3 rfl) ?_
  refine lv_icmp_ge (tgt := 108) G.hx G.hb (dcs_get dec_X11_beginners_1 2 rfl) (by decide) (fun hc => ?_) (fun hc => ?_)
  · rw [if_pos hc] at hf
    refine lv_aload_n G.hx G.hb (dcs_get dec_X11_beginners_1 14 rfl) rfl (lv_at hl 0 rfl) ?_
    obtain ⟨z2, e_z2, ok_z2, hf⟩ := cR_some hf
    have k_z2 := okr_in ok_z2
    refine r_getr (k := 10) cls11 fi_11_10.1 fi_11_10.2 q_401 G w k_a0.1 k_a0.2 e_z2 (dcs_get dec_X11_beginners_1 15 rfl) ?_
    refine lv_aload_n G.hx G.hb (dcs_get dec_X11_beginners_1 16 rfl) rfl (lv_at hl 0 rfl) ?_
    obtain ⟨z3, e_z3, ok_z3, hf⟩ := cR_some hf
    have k_z3 := okr_in ok_z3
    refine r_getr (k := 6) cls11 fi_11_6.1 fi_11_6.2 q_397 G w k_a0.1 k_a0.2 e_z3 (dcs_get dec_X11_beginners_1 17 rfl) ?_
    refine lv_iload_n G.hx G.hb (dcs_get dec_X11_beginners_1 18 rfl) rfl (lv_at hl 1 rfl) ?_
    refine lv_iload_n G.hx G.hb (dcs_get dec_X11_beginners_1 19 rfl) rfl (lv_at hl 2 rfl) ?_
    obtain ⟨v5, h4, hf⟩ := cB_some hf
    refine a_i (k_VN (As := [.ref (ad z3), .int l1, .int l2]) (rest := []) cls9 lb_X9_isSo lv_X9_isSo nm_966 (C_X9_isSo G.2.2.1 z2 z3 l1 l2 σ h4 ok_z2 ok_z3) ⟨(Nat.le_of_ble_eq_true rfl), (Nat.le_of_ble_eq_true rfl)⟩ G w k_z2.1 k_z2.2 rfl rfl hl.1 (Nat.le_of_ble_eq_true rfl) (dcs_get dec_X11_beginners_1 20 rfl) ⟨Nat.le_refl _, Nat.le_refl _⟩) G w (fun H locs w => ?_)
    refine lv_if_eq (tgt := 133) G.hx G.hb (dcs_get dec_X11_beginners_1 21 rfl) (by decide) (fun hc => ?_) (fun hc => ?_)
    · rw [if_pos hc] at hf
      obtain ⟨x9, h9, e9⟩ := map_some_inv hf
      subst e9
      exact B_X11_beginners_133 a0 l1 l2 l3 l4 l5 σ G hm ok_a0 h9 (fun v e => hb0 v (by rw [e])) (fun x e => hr x (by rw [e])) w (lv_sub hl [0, 1, 2, 3, 4, 5] rfl)
    · rw [if_neg hc] at hf
      refine lv_iload G.hx G.hb (dcs_get dec_X11_beginners_1 22 rfl) (lv_at hl 4 rfl) ?_
      refine lv_iconst (v := (1 : Int32)) G.hx G.hb (dcs_get dec_X11_beginners_1 23 rfl) (by decide) ?_
      refine lv_iload G.hx G.hb (dcs_get dec_X11_beginners_1 24 rfl) (lv_at hl 5 rfl) ?_
      refine lv_ishl G.hx G.hb (dcs_get dec_X11_beginners_1 25 rfl) ?_
      refine lv_ior G.hx G.hb (dcs_get dec_X11_beginners_1 26 rfl) ?_
      obtain ⟨v6, e_v6, hf⟩ := cL_some hf
      refine r_topi e_v6 ?_
      refine lv_istore (lv' := [(4, .int v6), (0, .ref (ad a0)), (1, .int l1), (2, .int l2), (3, .int l3), (5, .int l5), (6, .int l6)]) G.hx G.hb (dcs_get dec_X11_beginners_1 27 rfl) hl (by decide) rfl (fun ls hl => ?_)
      obtain ⟨x9, h9, e9⟩ := map_some_inv hf
      subst e9
      exact B_X11_beginners_133 a0 l1 l2 l3 v6 l5 σ G hm ok_a0 h9 (fun v e => hb0 v (by rw [e])) (fun x e => hr x (by rw [e])) w (lv_sub hl [1, 2, 3, 4, 0, 5] rfl)
  · rw [if_neg hc] at hf
    refine lv_aload_n G.hx G.hb (dcs_get dec_X11_beginners_1 3 rfl) rfl (lv_at hl 0 rfl) ?_
    obtain ⟨z7, e_z7, ok_z7, hf⟩ := cR_some hf
    have k_z7 := okr_in ok_z7
    refine r_getr (k := 6) cls11 fi_11_6.1 fi_11_6.2 q_397 G w k_a0.1 k_a0.2 e_z7 (dcs_get dec_X11_beginners_1 4 rfl) ?_
    refine lv_aload_n G.hx G.hb (dcs_get dec_X11_beginners_1 5 rfl) rfl (lv_at hl 0 rfl) ?_
    obtain ⟨z8, e_z8, ok_z8, hf⟩ := cR_some hf
    have k_z8 := okr_in ok_z8
    refine r_getr (k := 1) cls11 fi_11_1.1 fi_11_1.2 q_392 G w k_a0.1 k_a0.2 e_z8 (dcs_get dec_X11_beginners_1 6 rfl) ?_
    refine lv_aload_n G.hx G.hb (dcs_get dec_X11_beginners_1 7 rfl) rfl (lv_at hl 0 rfl) ?_
    obtain ⟨z9, e_z9, ok_z9, hf⟩ := cR_some hf
    have k_z9 := okr_in ok_z9
    refine r_getr (k := 1) cls11 fi_11_1.1 fi_11_1.2 q_392 G w k_a0.1 k_a0.2 e_z9 (dcs_get dec_X11_beginners_1 8 rfl) ?_
    refine r_getiN (k := 8) cls7 fi_7_8.1 fi_7_8.2 nf_120 G w k_z9.1 k_z9.2 (dcs_get dec_X11_beginners_1 9 rfl) ?_
    refine lv_iconst (v := (-1 : Int32)) G.hx G.hb (dcs_get dec_X11_beginners_1 10 rfl) (by decide) ?_
    obtain ⟨σ11, h10, hf⟩ := cB_some hf
    refine a_v (k_VN (As := [.ref (ad z8), .int (σ.1 z9 8), .int (-1 : Int32)]) (rest := []) cls10 lb_X10_passDay lv_X10_passDay nm_808 (C_X10_passDay G.2.2.1 z7 z8 (σ.1 z9 8) (-1 : Int32) σ h10 ok_z7 ok_z8) ⟨(Nat.le_of_ble_eq_true rfl), (Nat.le_of_ble_eq_true rfl)⟩ G w k_z7.1 k_z7.2 rfl rfl hl.1 (Nat.le_of_ble_eq_true rfl) (dcs_get dec_X11_beginners_1 11 rfl) ⟨Nat.le_refl _, Nat.le_refl _⟩) G w (fun H locs w => ?_)
    obtain ⟨v12, e_v12, hf⟩ := cL_some hf
    refine lv_iinc (v := v12) (lv' := [(6, .int v12), (0, .ref (ad a0)), (1, .int l1), (2, .int l2), (3, .int l3), (4, .int l4), (5, .int l5)]) G.hx G.hb (dcs_get dec_X11_beginners_1 12 rfl) hl (k := 6) rfl (by rw [e_v12]; rfl) (by decide) rfl (fun ls hl => ?_)
    refine lv_goto (tgt := 77) G.hx G.hb (dcs_get dec_X11_beginners_1 13 rfl) (by decide) ?_
    exact hb1 _ (Option.some.inj hf).symm _ _ _ w (lv_sub hl [1, 2, 3, 4, 5, 6, 0] rfl)
set_option maxRecDepth 100000 in
set_option maxHeartbeats 4000000 in
theorem H_X11_beginners_77 {r0 : Int32} {σ0 : hSt} {o : (Int32 × Int32 × hSt) ⊕ (Int32 × hSt)} (a0 : Nat) (l1 : Int32) (l2 : Int32) (l3 : Int32) (l4 : Int32) (l5 : Int32) (G : Gx p m c cX11_beginners 7 s args RX11 D ay NC ad (aN NC ad)) (hm : meth.sig.returnType = (some .int) ∧ meth.locks = false) (ok_a0 : okr kC NC 11 a0 = true) (hb0 : ∀ (v : Int32 × Int32 × hSt), o = .inl v → ∀ (H : Heap) (locs : List Loc) (ls : Array Slot), Wd D ay kC NC ad (aN NC ad) s v.2.2 H locs → lv_has ls 7 [(0, .ref (ad a0)), (1, .int l1), (2, .int l2), (3, .int l3), (4, .int v.1), (5, .int v.2.1)] → W p l e (rmK 6 148) s m args below meth c H locs 0 0 (MQ below (cI D ay kC NC ad r0 σ0) args s 0 0 (aN NC ad)) (F0 m 41 ls [])) (hr : ∀ x, o = .inr (x) → x = (r0, σ0)) : ∀ (k : Nat) (v : Int32 × hSt), lp (S_X11_beginners_77 a0 l1 l2 l3 l4 l5) k v = some o → ∀ (H : Heap) (locs : List Loc) (ls : Array Slot), Wd D ay kC NC ad (aN NC ad) s v.2 H locs → lv_has ls 7 [(0, .ref (ad a0)), (1, .int l1), (2, .int l2), (3, .int l3), (4, .int l4), (5, .int l5), (6, .int v.1)] → W p l e (rmK 6 148) s m args below meth c H locs 0 0 (MQ below (cI D ay kC NC ad r0 σ0) args s 0 0 (aN NC ad)) (F0 m 77 ls []) := by
  intro k
  induction k with
  | zero => intro v hf; cases hf
  | succ k ih =>
    intro v hf H locs ls w hl
    obtain ⟨o1, h1, h2, h3⟩ := lp_some hf
    exact B_X11_beginners_77b a0 l1 l2 l3 l4 l5 v.1 v.2 G hm ok_a0 h1 (fun v' e => hb0 v' (h3 _ e).symm) (fun v' e => ih v' (h2 v' e)) (fun x e => hr x (h3 _ e).symm) w hl
set_option maxRecDepth 100000 in
set_option maxHeartbeats 4000000 in
theorem B_X11_beginners_77 {H : Heap} {locs : List Loc} {ls : Array Slot} {r0 : Int32} {σ0 : hSt} {o : (Int32 × Int32 × hSt) ⊕ (Int32 × hSt)} (a0 : Nat) (l1 : Int32) (l2 : Int32) (l3 : Int32) (l4 : Int32) (l5 : Int32) (l6 : Int32) (σ : hSt) (G : Gx p m c cX11_beginners 7 s args RX11 D ay NC ad (aN NC ad)) (hm : meth.sig.returnType = (some .int) ∧ meth.locks = false) (ok_a0 : okr kC NC 11 a0 = true) (hf : F_X11_beginners_77 a0 l1 l2 l3 l4 l5 l6 σ = some o) (hb0 : ∀ (v : Int32 × Int32 × hSt), o = .inl v → ∀ (H : Heap) (locs : List Loc) (ls : Array Slot), Wd D ay kC NC ad (aN NC ad) s v.2.2 H locs → lv_has ls 7 [(0, .ref (ad a0)), (1, .int l1), (2, .int l2), (3, .int l3), (4, .int v.1), (5, .int v.2.1)] → W p l e (rmK 6 148) s m args below meth c H locs 0 0 (MQ below (cI D ay kC NC ad r0 σ0) args s 0 0 (aN NC ad)) (F0 m 41 ls [])) (hr : ∀ x, o = .inr (x) → x = (r0, σ0)) (w : Wd D ay kC NC ad (aN NC ad) s σ H locs) (hl : lv_has ls 7 [(0, .ref (ad a0)), (1, .int l1), (2, .int l2), (3, .int l3), (4, .int l4), (5, .int l5), (6, .int l6)]) : W p l e (rmK 6 148) s m args below meth c H locs 0 0 (MQ below (cI D ay kC NC ad r0 σ0) args s 0 0 (aN NC ad)) (F0 m 77 ls []) := by
  unfold F_X11_beginners_77 at hf
  exact H_X11_beginners_77 a0 l1 l2 l3 l4 l5  G hm ok_a0 hb0 hr fuel (l6, σ) hf _ _ _ w hl
set_option maxRecDepth 100000 in
set_option maxHeartbeats 4000000 in
theorem B_X11_beginners_41b {H : Heap} {locs : List Loc} {ls : Array Slot} {r0 : Int32} {σ0 : hSt} {o : (Int32 × Int32 × hSt) ⊕ (Int32 × hSt)} (a0 : Nat) (l1 : Int32) (l2 : Int32) (l3 : Int32) (l4 : Int32) (l5 : Int32) (σ : hSt) (G : Gx p m c cX11_beginners 7 s args RX11 D ay NC ad (aN NC ad)) (hm : meth.sig.returnType = (some .int) ∧ meth.locks = false) (ok_a0 : okr kC NC 11 a0 = true) (hf : F_X11_beginners_41b a0 l1 l2 l3 l4 l5 σ = some o) (hb0 : ∀ (v : Int32 × Int32 × hSt), o = .inl v → ∀ (H : Heap) (locs : List Loc) (ls : Array Slot), Wd D ay kC NC ad (aN NC ad) s v.2.2 H locs → lv_has ls 7 [(0, .ref (ad a0)), (1, .int l1), (2, .int l2), (3, .int l3), (4, .int v.1), (5, .int v.2.1)] → W p l e (rmK 6 148) s m args below meth c H locs 0 0 (MQ below (cI D ay kC NC ad r0 σ0) args s 0 0 (aN NC ad)) (F0 m 41 ls [])) (hr : ∀ x, o = .inr (x) → x = (r0, σ0)) (w : Wd D ay kC NC ad (aN NC ad) s σ H locs) (hl : lv_has ls 7 [(0, .ref (ad a0)), (1, .int l1), (2, .int l2), (3, .int l3), (4, .int l4), (5, .int l5)]) : W p l e (rmK 6 148) s m args below meth c H locs 0 0 (MQ below (cI D ay kC NC ad r0 σ0) args s 0 0 (aN NC ad)) (F0 m 41 ls []) := by
  have k_a0 := okr_in ok_a0
  unfold F_X11_beginners_41b at hf
  refine lv_iload G.hx G.hb (dcs_get dec_X11_beginners_0 23 rfl) (lv_at hl 5 rfl) ?_
  refine lv_aload_n G.hx G.hb (dcs_get dec_X11_beginners_0 24 rfl) rfl (lv_at hl 0 rfl) ?_
  obtain ⟨z13, e_z13, ok_z13, hf⟩ := cR_some hf
  have k_z13 := okr_in ok_z13
  refine r_getr (k := 1) cls11 fi_11_1.1 fi_11_1.2 q_392 G w k_a0.1 k_a0.2 e_z13 (dcs_get dec_X11_beginners_0 25 rfl) ?_
  refine r_getiN (k := 0) cls7 fi_7_0.1 fi_7_0.2 nf_94 G w k_z13.1 k_z13.2 (dcs_get dec_X11_beginners_0 26 rfl) ?_
  refine lv_icmp_ge (tgt := 139) G.hx G.hb (dcs_get dec_X11_beginners_0 27 rfl) (by decide) (fun hc => ?_) (fun hc => ?_)
  · rw [if_pos hc] at hf
    refine lv_iload G.hx G.hb (dcs_get dec_X11_beginners_1 30 rfl) (lv_at hl 4 rfl) ?_
    have e9 := hr _ (Option.some.inj hf).symm
    exact r_iret G w hm (congrArg Prod.fst e9) (congrArg Prod.snd e9) (dcs_get dec_X11_beginners_1 31 rfl)
  · rw [if_neg hc] at hf
    refine lv_aload_n G.hx G.hb (dcs_get dec_X11_beginners_0 28 rfl) rfl (lv_at hl 0 rfl) ?_
    obtain ⟨z14, e_z14, ok_z14, hf⟩ := cR_some hf
    have k_z14 := okr_in ok_z14
    refine r_getr (k := 6) cls11 fi_11_6.1 fi_11_6.2 q_397 G w k_a0.1 k_a0.2 e_z14 (dcs_get dec_X11_beginners_0 29 rfl) ?_
    refine lv_aload_n G.hx G.hb (dcs_get dec_X11_beginners_0 30 rfl) rfl (lv_at hl 0 rfl) ?_
    obtain ⟨z15, e_z15, ok_z15, hf⟩ := cR_some hf
    have k_z15 := okr_in ok_z15
    refine r_getr (k := 1) cls11 fi_11_1.1 fi_11_1.2 q_392 G w k_a0.1 k_a0.2 e_z15 (dcs_get dec_X11_beginners_0 31 rfl) ?_
    obtain ⟨σ17, h16, hf⟩ := cB_some hf
    refine a_v (k_VN (As := [.ref (ad z15)]) (rest := []) cls10 lb_X10_begin lv_X10_begin nm_380 (C_X10_begin G.2.2.1 z14 z15 σ h16 ok_z14 ok_z15) ⟨(Nat.le_of_ble_eq_true rfl), (Nat.le_of_ble_eq_true rfl)⟩ G w k_z14.1 k_z14.2 rfl rfl hl.1 (Nat.le_of_ble_eq_true rfl) (dcs_get dec_X11_beginners_0 32 rfl) ⟨Nat.le_refl _, Nat.le_refl _⟩) G w (fun H locs w => ?_)
    refine lv_aload_n G.hx G.hb (dcs_get dec_X11_beginners_0 33 rfl) rfl (lv_at hl 0 rfl) ?_
    obtain ⟨z18, e_z18, ok_z18, hf⟩ := cR_some hf
    have k_z18 := okr_in ok_z18
    refine r_getr (k := 6) cls11 fi_11_6.1 fi_11_6.2 q_397 G w k_a0.1 k_a0.2 e_z18 (dcs_get dec_X11_beginners_0 34 rfl) ?_
    refine lv_iload G.hx G.hb (dcs_get dec_X11_beginners_0 35 rfl) (lv_at hl 5 rfl) ?_
    refine lv_iload_n G.hx G.hb (dcs_get dec_X11_beginners_0 36 rfl) rfl (lv_at hl 1 rfl) ?_
    obtain ⟨σ20, h19, hf⟩ := cB_some hf
    refine a_v (k_VN (As := [.int l5, .int l1]) (rest := []) cls10 lb_X10_beginAt lv_X10_beginAt nm_965 (C_X10_beginAt G.2.2.1 z18 l5 l1 σ17 h19 ok_z18) ⟨(Nat.le_of_ble_eq_true rfl), (Nat.le_of_ble_eq_true rfl)⟩ G w k_z18.1 k_z18.2 rfl rfl hl.1 (Nat.le_of_ble_eq_true rfl) (dcs_get dec_X11_beginners_0 37 rfl) ⟨Nat.le_refl _, Nat.le_refl _⟩) G w (fun H locs w => ?_)
    refine lv_iconst (v := (0 : Int32)) G.hx G.hb (dcs_get dec_X11_beginners_0 38 rfl) (by decide) ?_
    refine lv_istore (lv' := [(6, .int (0 : Int32)), (0, .ref (ad a0)), (1, .int l1), (2, .int l2), (3, .int l3), (4, .int l4), (5, .int l5)]) G.hx G.hb (dcs_get dec_X11_beginners_0 39 rfl) hl (by decide) rfl (fun ls hl => ?_)
    exact B_X11_beginners_77 a0 l1 l2 l3 l4 l5 (0 : Int32) σ20 G hm ok_a0 hf hb0 hr w (lv_sub hl [1, 2, 3, 4, 5, 6, 0] rfl)
set_option maxRecDepth 100000 in
set_option maxHeartbeats 4000000 in
theorem H_X11_beginners_41 {r0 : Int32} {σ0 : hSt} (a0 : Nat) (l1 : Int32) (l2 : Int32) (l3 : Int32) (G : Gx p m c cX11_beginners 7 s args RX11 D ay NC ad (aN NC ad)) (hm : meth.sig.returnType = (some .int) ∧ meth.locks = false) (ok_a0 : okr kC NC 11 a0 = true)  : ∀ (k : Nat) (v : Int32 × Int32 × hSt), lp (S_X11_beginners_41 a0 l1 l2 l3) k v = some (r0, σ0) → ∀ (H : Heap) (locs : List Loc) (ls : Array Slot), Wd D ay kC NC ad (aN NC ad) s v.2.2 H locs → lv_has ls 7 [(0, .ref (ad a0)), (1, .int l1), (2, .int l2), (3, .int l3), (4, .int v.1), (5, .int v.2.1)] → W p l e (rmK 6 148) s m args below meth c H locs 0 0 (MQ below (cI D ay kC NC ad r0 σ0) args s 0 0 (aN NC ad)) (F0 m 41 ls []) := by
  intro k
  induction k with
  | zero => intro v hf; cases hf
  | succ k ih =>
    intro v hf H locs ls w hl
    obtain ⟨o1, h1, h2, h3⟩ := lp_some hf
    exact B_X11_beginners_41b a0 l1 l2 l3 v.1 v.2.1 v.2.2 G hm ok_a0 h1  (fun v' e => ih v' (h2 v' e)) (fun x e => h3 x e) w hl
set_option maxRecDepth 100000 in
set_option maxHeartbeats 4000000 in
theorem B_X11_beginners_41 {H : Heap} {locs : List Loc} {ls : Array Slot} {r0 : Int32} {σ0 : hSt} (a0 : Nat) (l1 : Int32) (l2 : Int32) (l3 : Int32) (l4 : Int32) (l5 : Int32) (σ : hSt) (G : Gx p m c cX11_beginners 7 s args RX11 D ay NC ad (aN NC ad)) (hm : meth.sig.returnType = (some .int) ∧ meth.locks = false) (ok_a0 : okr kC NC 11 a0 = true) (hf : F_X11_beginners_41 a0 l1 l2 l3 l4 l5 σ = some (r0, σ0))  (w : Wd D ay kC NC ad (aN NC ad) s σ H locs) (hl : lv_has ls 7 [(0, .ref (ad a0)), (1, .int l1), (2, .int l2), (3, .int l3), (4, .int l4), (5, .int l5)]) : W p l e (rmK 6 148) s m args below meth c H locs 0 0 (MQ below (cI D ay kC NC ad r0 σ0) args s 0 0 (aN NC ad)) (F0 m 41 ls []) := by
  unfold F_X11_beginners_41 at hf
  exact H_X11_beginners_41 a0 l1 l2 l3  G hm ok_a0  fuel (l4, l5, σ) hf _ _ _ w hl
set_option maxRecDepth 100000 in
set_option maxHeartbeats 4000000 in
theorem B_X11_beginners_0 {H : Heap} {locs : List Loc} {ls : Array Slot} {r0 : Int32} {σ0 : hSt} (a0 : Nat) (l1 : Int32) (l2 : Int32) (σ : hSt) (G : Gx p m c cX11_beginners 7 s args RX11 D ay NC ad (aN NC ad)) (hm : meth.sig.returnType = (some .int) ∧ meth.locks = false) (ok_a0 : okr kC NC 11 a0 = true) (hf : F_X11_beginners a0 l1 l2 σ = some (r0, σ0))  (w : Wd D ay kC NC ad (aN NC ad) s σ H locs) (hl : lv_has ls 7 [(0, .ref (ad a0)), (1, .int l1), (2, .int l2)]) : W p l e (rmK 6 148) s m args below meth c H locs 0 0 (MQ below (cI D ay kC NC ad r0 σ0) args s 0 0 (aN NC ad)) (F0 m 0 ls []) := by
  have k_a0 := okr_in ok_a0
  unfold F_X11_beginners at hf
  refine lv_aload_n G.hx G.hb (dcs_get dec_X11_beginners_0 0 rfl) rfl (lv_at hl 0 rfl) ?_
  refine lv_iload_n G.hx G.hb (dcs_get dec_X11_beginners_0 1 rfl) rfl (lv_at hl 1 rfl) ?_
  obtain ⟨v22, h21, hf⟩ := cB_some hf
  refine a_i (k_V (As := [.int l1]) (rest := []) cls11 lb_X11_isNews lv_X11_isNews q_720 (C_X11_isNews G.2.2.1 a0 l1 σ h21 ok_a0) ⟨(Nat.le_of_ble_eq_true rfl), (Nat.le_of_ble_eq_true rfl)⟩ G w k_a0.1 k_a0.2 rfl rfl hl.1 (Nat.le_of_ble_eq_true rfl) (dcs_get dec_X11_beginners_0 2 rfl) ⟨Nat.le_refl _, Nat.le_refl _⟩) G w (fun H locs w => ?_)
  refine lv_if_eq (tgt := 23) G.hx G.hb (dcs_get dec_X11_beginners_0 3 rfl) (by decide) (fun hc => ?_) (fun hc => ?_)
  · rw [if_pos hc] at hf
    exact B_X11_beginners_23  σ G hm  hf  w (lv_sub hl [] rfl)
  · rw [if_neg hc] at hf
    refine lv_iload_n G.hx G.hb (dcs_get dec_X11_beginners_0 4 rfl) rfl (lv_at hl 2 rfl) ?_
    refine lv_if_lt (tgt := 23) G.hx G.hb (dcs_get dec_X11_beginners_0 5 rfl) (by decide) (fun hc => ?_) (fun hc => ?_)
    · rw [if_pos hc] at hf
      exact B_X11_beginners_23  σ G hm  hf  w (lv_sub hl [] rfl)
    · rw [if_neg hc] at hf
      refine lv_iload_n G.hx G.hb (dcs_get dec_X11_beginners_0 6 rfl) rfl (lv_at hl 2 rfl) ?_
      refine lv_aload_n G.hx G.hb (dcs_get dec_X11_beginners_0 7 rfl) rfl (lv_at hl 0 rfl) ?_
      obtain ⟨z23, e_z23, ok_z23, hf⟩ := cR_some hf
      have k_z23 := okr_in ok_z23
      refine r_getr (k := 10) cls11 fi_11_10.1 fi_11_10.2 q_401 G w k_a0.1 k_a0.2 e_z23 (dcs_get dec_X11_beginners_0 8 rfl) ?_
      refine r_getiN (k := 3) cls9 fi_9_3.1 fi_9_3.2 nf_312 G w k_z23.1 k_z23.2 (dcs_get dec_X11_beginners_0 9 rfl) ?_
      refine lv_icmp_le (tgt := 25) G.hx G.hb (dcs_get dec_X11_beginners_0 10 rfl) (by decide) (fun hc => ?_) (fun hc => ?_)
      · rw [if_pos hc] at hf
        refine lv_aload_n G.hx G.hb (dcs_get dec_X11_beginners_0 13 rfl) rfl (lv_at hl 0 rfl) ?_
        obtain ⟨z24, e_z24, ok_z24, hf⟩ := cR_some hf
        have k_z24 := okr_in ok_z24
        refine r_getr (k := 10) cls11 fi_11_10.1 fi_11_10.2 q_401 G w k_a0.1 k_a0.2 e_z24 (dcs_get dec_X11_beginners_0 14 rfl) ?_
        refine lv_iload_n G.hx G.hb (dcs_get dec_X11_beginners_0 15 rfl) rfl (lv_at hl 1 rfl) ?_
        refine lv_iload_n G.hx G.hb (dcs_get dec_X11_beginners_0 16 rfl) rfl (lv_at hl 2 rfl) ?_
        obtain ⟨v26, h25, hf⟩ := cB_some hf
        refine a_i (k_VN (As := [.int l1, .int l2]) (rest := []) cls9 lb_X9_daysNeeded lv_X9_daysNeeded nm_960 (C_X9_daysNeeded G.2.2.1 z24 l1 l2 σ h25 ok_z24) ⟨(Nat.le_of_ble_eq_true rfl), (Nat.le_of_ble_eq_true rfl)⟩ G w k_z24.1 k_z24.2 rfl rfl hl.1 (Nat.le_of_ble_eq_true rfl) (dcs_get dec_X11_beginners_0 17 rfl) ⟨Nat.le_refl _, Nat.le_refl _⟩) G w (fun H locs w => ?_)
        refine lv_istore_n (lv' := [(3, .int v26), (0, .ref (ad a0)), (1, .int l1), (2, .int l2)]) G.hx G.hb (dcs_get dec_X11_beginners_0 18 rfl) rfl hl (by decide) rfl (fun ls hl => ?_)
        refine lv_iconst (v := (0 : Int32)) G.hx G.hb (dcs_get dec_X11_beginners_0 19 rfl) (by decide) ?_
        refine lv_istore (lv' := [(4, .int (0 : Int32)), (3, .int v26), (0, .ref (ad a0)), (1, .int l1), (2, .int l2)]) G.hx G.hb (dcs_get dec_X11_beginners_0 20 rfl) hl (by decide) rfl (fun ls hl => ?_)
        refine lv_iconst (v := (0 : Int32)) G.hx G.hb (dcs_get dec_X11_beginners_0 21 rfl) (by decide) ?_
        refine lv_istore (lv' := [(5, .int (0 : Int32)), (4, .int (0 : Int32)), (3, .int v26), (0, .ref (ad a0)), (1, .int l1), (2, .int l2)]) G.hx G.hb (dcs_get dec_X11_beginners_0 22 rfl) hl (by decide) rfl (fun ls hl => ?_)
        exact B_X11_beginners_41 a0 l1 l2 v26 (0 : Int32) (0 : Int32) σ G hm ok_a0 hf  w (lv_sub hl [3, 4, 5, 2, 1, 0] rfl)
      · rw [if_neg hc] at hf
        exact B_X11_beginners_23  σ G hm  hf  w (lv_sub hl [] rfl)
end
set_option maxRecDepth 100000 in
set_option maxHeartbeats 4000000 in
theorem C_X11_beginners {l : Launch} {D : va_G} {ay : Nat → ClassId} {ad : Nat → Nat} (hi : hInj NC ad) (a0 : Nat) (l1 : Int32) (l2 : Int32) (σ : hSt) {r0 : Int32} {σ0 : hSt} (hf : F_X11_beginners a0 l1 l2 σ = some (r0, σ0)) (ok_a0 : okr kC NC 11 a0 = true) : hM l D ay kC NC ad yX11_beginners cX11_beginners 7 ((some .int)) (rmK 6 148) [.ref (ad a0), .int l1, .int l2] σ (cI D ay kC NC ad r0 σ0) := by
  refine hM_in (by decide) hi (Nat.le_of_ble_eq_true rfl) ?_
  intro p e s m below meth c G hm w ls hl
  exact B_X11_beginners_0 a0 l1 l2 σ G hm ok_a0 hf w (lv_sub hl [0, 1, 2] rfl)

/-! HillDrums.hold(I)Z -/
def DL_X11_hold_0 : List (Nat × Instr × Nat) := [(0, .iload_n 1, 1), (1, .ifCond .lt 17, 3), (4, .iload_n 1, 1), (5, .iconst 3, 1), (6, .if_icmp .ge 12, 3), (9, .aload_n 0, 1), (10, .getfield 56, 3), (13, .iload_n 1, 1), (14, .aaload, 1), (15, .ifnonnull 5, 3), (18, .iconst 0, 1), (19, .ireturn, 1), (20, .aload_n 0, 1), (21, .getfield 56, 3), (24, .iload_n 1, 1), (25, .aaload, 1), (26, .aload_n 0, 1), (27, .getfield 42, 3), (30, .invokevirtual 213, 3), (33, .aload_n 0, 1), (34, .dup, 1), (35, .getfield 60, 3), (38, .iconst 1, 1), (39, .iload_n 1, 1), (40, .ishl, 1), (41, .ior, 1), (42, .putfield 60, 3), (45, .iconst 1, 1), (46, .ireturn, 1)]
set_option maxRecDepth 100000 in
theorem dec_X11_hold_0 : dcs cX11_hold DL_X11_hold_0 = true := by decide +kernel
theorem lb_X11_hold : lkB yX11_hold cX11_hold 2 ((some .boolean)) 1 := ⟨q_975, q_1, ⟨by decide, by decide⟩, by decide +kernel⟩
theorem lv_X11_hold : lkV yX11_hold := ⟨q_973, q_974⟩
def F_X11_hold_18  (σ : hSt) : Option (Int32 × hSt) :=
some (((0 : Int32), σ))
def F_X11_hold (a0 : Nat) (l1 : Int32) (σ : hSt) : Option (Int32 × hSt) :=
if l1 < 0 then (
F_X11_hold_18  σ) else (
if (3 : Int32) ≤ l1 then (
F_X11_hold_18  σ) else (
cR (σ.2.2 a0 8) (okr kC NC 105) fun z1 =>
cG (inb l1 (kC z1).2) <|
cR (σ.2.2 z1 l1.toNatClampNeg) (okr kC NC 10) fun z3 =>
cR (σ.2.2 a0 8) (okr kC NC 105) fun z4 =>
cG (inb l1 (kC z4).2) <|
cR (σ.2.2 z4 l1.toNatClampNeg) (okr kC NC 10) fun z6 =>
cR (σ.2.2 a0 5) (okr kC NC 10) fun z7 =>
(F_X10_copy z6 z7 σ).bind fun σ9 =>
cL (uI σ9 a0 9 ((σ9.1 a0 9) ||| ((1 : Int32) <<< (l1 &&& 31)))) fun σ10 =>
some (((1 : Int32), σ10))))
section
variable {p : Program} {l : Launch} {e : Env} {s : State} {m : MethodId} {args : Array Value} {below : List Frame} {meth : Method} {c : Code} {D : va_G} {ay : Nat → ClassId} {ad : Nat → Nat}
set_option maxRecDepth 100000 in
set_option maxHeartbeats 4000000 in
theorem B_X11_hold_18 {H : Heap} {locs : List Loc} {ls : Array Slot} {r0 : Int32} {σ0 : hSt}  (σ : hSt) (G : Gx p m c cX11_hold 2 s args RX11 D ay NC ad (aN NC ad)) (hm : meth.sig.returnType = (some .boolean) ∧ meth.locks = false)  (hf : F_X11_hold_18  σ = some (r0, σ0))  (w : Wd D ay kC NC ad (aN NC ad) s σ H locs) (hl : lv_has ls 2 []) : W p l e (rmK 2 81) s m args below meth c H locs 0 0 (MQ below (cI D ay kC NC ad r0 σ0) args s 0 0 (aN NC ad)) (F0 m 18 ls []) := by
  unfold F_X11_hold_18 at hf
  refine lv_iconst (v := (0 : Int32)) G.hx G.hb (dcs_get dec_X11_hold_0 10 rfl) (by decide) ?_
  have e9 := Option.some.inj hf
  exact r_zret rfl G w hm (congrArg Prod.fst e9) (congrArg Prod.snd e9) (dcs_get dec_X11_hold_0 11 rfl)
set_option maxRecDepth 100000 in
set_option maxHeartbeats 4000000 in
theorem B_X11_hold_0 {H : Heap} {locs : List Loc} {ls : Array Slot} {r0 : Int32} {σ0 : hSt} (a0 : Nat) (l1 : Int32) (σ : hSt) (G : Gx p m c cX11_hold 2 s args RX11 D ay NC ad (aN NC ad)) (hm : meth.sig.returnType = (some .boolean) ∧ meth.locks = false) (ok_a0 : okr kC NC 11 a0 = true) (hf : F_X11_hold a0 l1 σ = some (r0, σ0))  (w : Wd D ay kC NC ad (aN NC ad) s σ H locs) (hl : lv_has ls 2 [(0, .ref (ad a0)), (1, .int l1)]) : W p l e (rmK 2 81) s m args below meth c H locs 0 0 (MQ below (cI D ay kC NC ad r0 σ0) args s 0 0 (aN NC ad)) (F0 m 0 ls []) := by
  have k_a0 := okr_in ok_a0
  unfold F_X11_hold at hf
  refine lv_iload_n G.hx G.hb (dcs_get dec_X11_hold_0 0 rfl) rfl (lv_at hl 1 rfl) ?_
  refine lv_if_lt (tgt := 18) G.hx G.hb (dcs_get dec_X11_hold_0 1 rfl) (by decide) (fun hc => ?_) (fun hc => ?_)
  · rw [if_pos hc] at hf
    exact B_X11_hold_18  σ G hm  hf  w (lv_sub hl [] rfl)
  · rw [if_neg hc] at hf
    refine lv_iload_n G.hx G.hb (dcs_get dec_X11_hold_0 2 rfl) rfl (lv_at hl 1 rfl) ?_
    refine lv_iconst (v := (3 : Int32)) G.hx G.hb (dcs_get dec_X11_hold_0 3 rfl) (by decide) ?_
    refine lv_icmp_ge (tgt := 18) G.hx G.hb (dcs_get dec_X11_hold_0 4 rfl) (by decide) (fun hc => ?_) (fun hc => ?_)
    · rw [if_pos hc] at hf
      exact B_X11_hold_18  σ G hm  hf  w (lv_sub hl [] rfl)
    · rw [if_neg hc] at hf
      refine lv_aload_n G.hx G.hb (dcs_get dec_X11_hold_0 5 rfl) rfl (lv_at hl 0 rfl) ?_
      obtain ⟨z1, e_z1, ok_z1, hf⟩ := cR_some hf
      have k_z1 := okr_in ok_z1
      refine r_getr (k := 8) cls11 fi_11_8.1 fi_11_8.2 q_399 G w k_a0.1 k_a0.2 e_z1 (dcs_get dec_X11_hold_0 6 rfl) ?_
      refine lv_iload_n G.hx G.hb (dcs_get dec_X11_hold_0 7 rfl) rfl (lv_at hl 1 rfl) ?_
      obtain ⟨h2, hf⟩ := cG_some hf
      obtain ⟨z3, e_z3, ok_z3, hf⟩ := cR_some hf
      have k_z3 := okr_in ok_z3
      refine r_aald G w k_z1.1 k_z1.2 h2 e_z3 (dcs_get dec_X11_hold_0 8 rfl) ?_
      refine lv_ifnonnull (tgt := 20) G.hx G.hb (dcs_get dec_X11_hold_0 9 rfl) (by decide) ?_
      refine lv_aload_n G.hx G.hb (dcs_get dec_X11_hold_0 12 rfl) rfl (lv_at hl 0 rfl) ?_
      obtain ⟨z4, e_z4, ok_z4, hf⟩ := cR_some hf
      have k_z4 := okr_in ok_z4
      refine r_getr (k := 8) cls11 fi_11_8.1 fi_11_8.2 q_399 G w k_a0.1 k_a0.2 e_z4 (dcs_get dec_X11_hold_0 13 rfl) ?_
      refine lv_iload_n G.hx G.hb (dcs_get dec_X11_hold_0 14 rfl) rfl (lv_at hl 1 rfl) ?_
      obtain ⟨h5, hf⟩ := cG_some hf
      obtain ⟨z6, e_z6, ok_z6, hf⟩ := cR_some hf
      have k_z6 := okr_in ok_z6
      refine r_aald G w k_z4.1 k_z4.2 h5 e_z6 (dcs_get dec_X11_hold_0 15 rfl) ?_
      refine lv_aload_n G.hx G.hb (dcs_get dec_X11_hold_0 16 rfl) rfl (lv_at hl 0 rfl) ?_
      obtain ⟨z7, e_z7, ok_z7, hf⟩ := cR_some hf
      have k_z7 := okr_in ok_z7
      refine r_getr (k := 5) cls11 fi_11_5.1 fi_11_5.2 q_396 G w k_a0.1 k_a0.2 e_z7 (dcs_get dec_X11_hold_0 17 rfl) ?_
      obtain ⟨σ9, h8, hf⟩ := cB_some hf
      refine a_v (k_VN (As := [.ref (ad z7)]) (rest := []) cls10 lb_X10_copy lv_X10_copy nm_839 (C_X10_copy G.2.2.1 z6 z7 σ h8 ok_z6 ok_z7) ⟨(Nat.le_of_ble_eq_true rfl), (Nat.le_of_ble_eq_true rfl)⟩ G w k_z6.1 k_z6.2 rfl rfl hl.1 (Nat.le_of_ble_eq_true rfl) (dcs_get dec_X11_hold_0 18 rfl) ⟨Nat.le_refl _, Nat.le_refl _⟩) G w (fun H locs w => ?_)
      refine lv_aload_n G.hx G.hb (dcs_get dec_X11_hold_0 19 rfl) rfl (lv_at hl 0 rfl) ?_
      refine lv_dup G.hx G.hb (dcs_get dec_X11_hold_0 20 rfl) rfl ?_
      refine r_geti (k := 9) cls11 fi_11_9.1 fi_11_9.2 q_400 G w k_a0.1 k_a0.2 (dcs_get dec_X11_hold_0 21 rfl) ?_
      refine lv_iconst (v := (1 : Int32)) G.hx G.hb (dcs_get dec_X11_hold_0 22 rfl) (by decide) ?_
      refine lv_iload_n G.hx G.hb (dcs_get dec_X11_hold_0 23 rfl) rfl (lv_at hl 1 rfl) ?_
      refine lv_ishl G.hx G.hb (dcs_get dec_X11_hold_0 24 rfl) ?_
      refine lv_ior G.hx G.hb (dcs_get dec_X11_hold_0 25 rfl) ?_
      obtain ⟨σ10, e_σ10, hf⟩ := cL_some hf
      refine r_puti (k := 9) cls11 ct11 fi_11_9.1 fi_11_9.2 fp_11_9.1 fp_11_9.2 q_400 rfl rfl G w k_a0.1 k_a0.2 (dcs_get dec_X11_hold_0 26 rfl) (fun H locs w => ?_)
      have w := Wd.nm e_σ10 w
      refine lv_iconst (v := (1 : Int32)) G.hx G.hb (dcs_get dec_X11_hold_0 27 rfl) (by decide) ?_
      have e9 := Option.some.inj hf
      exact r_zret rfl G w hm (congrArg Prod.fst e9) (congrArg Prod.snd e9) (dcs_get dec_X11_hold_0 28 rfl)
end
set_option maxRecDepth 100000 in
set_option maxHeartbeats 4000000 in
theorem C_X11_hold {l : Launch} {D : va_G} {ay : Nat → ClassId} {ad : Nat → Nat} (hi : hInj NC ad) (a0 : Nat) (l1 : Int32) (σ : hSt) {r0 : Int32} {σ0 : hSt} (hf : F_X11_hold a0 l1 σ = some (r0, σ0)) (ok_a0 : okr kC NC 11 a0 = true) : hM l D ay kC NC ad yX11_hold cX11_hold 2 ((some .boolean)) (rmK 2 81) [.ref (ad a0), .int l1] σ (cI D ay kC NC ad r0 σ0) := by
  refine hM_in (by decide) hi (Nat.le_of_ble_eq_true rfl) ?_
  intro p e s m below meth c G hm w ls hl
  exact B_X11_hold_0 a0 l1 σ G hm ok_a0 hf w (lv_sub hl [0, 1] rfl)

/-! HillDrums.restore(I)Z -/
def DL_X11_restore_0 : List (Nat × Instr × Nat) := [(0, .iload_n 1, 1), (1, .ifCond .lt 28, 3), (4, .iload_n 1, 1), (5, .iconst 3, 1), (6, .if_icmp .ge 23, 3), (9, .aload_n 0, 1), (10, .getfield 56, 3), (13, .iload_n 1, 1), (14, .aaload, 1), (15, .ifnull 14, 3), (18, .aload_n 0, 1), (19, .getfield 60, 3), (22, .iload_n 1, 1), (23, .ishr, 1), (24, .iconst 1, 1), (25, .iand, 1), (26, .ifCond .ne 5, 3), (29, .iconst 0, 1), (30, .ireturn, 1), (31, .aload_n 0, 1), (32, .getfield 42, 3), (35, .aload_n 0, 1), (36, .getfield 56, 3), (39, .iload_n 1, 1), (40, .aaload, 1), (41, .invokevirtual 213, 3), (44, .aload_n 0, 1), (45, .getfield 52, 3), (48, .iconst 0, 1), (49, .putfield 110, 3), (52, .iconst 1, 1), (53, .ireturn, 1)]
set_option maxRecDepth 100000 in
theorem dec_X11_restore_0 : dcs cX11_restore DL_X11_restore_0 = true := by decide +kernel
theorem lb_X11_restore : lkB yX11_restore cX11_restore 2 ((some .boolean)) 1 := ⟨q_979, q_1, ⟨by decide, by decide⟩, by decide +kernel⟩
theorem lv_X11_restore : lkV yX11_restore := ⟨q_977, q_978⟩
def F_X11_restore_29  (σ : hSt) : Option (Int32 × hSt) :=
some (((0 : Int32), σ))
def F_X11_restore (a0 : Nat) (l1 : Int32) (σ : hSt) : Option (Int32 × hSt) :=
if l1 < 0 then (
F_X11_restore_29  σ) else (
if (3 : Int32) ≤ l1 then (
F_X11_restore_29  σ) else (
cR (σ.2.2 a0 8) (okr kC NC 105) fun z1 =>
cG (inb l1 (kC z1).2) <|
cR (σ.2.2 z1 l1.toNatClampNeg) (okr kC NC 10) fun z3 =>
if (((σ.1 a0 9) >>> (l1 &&& 31)) &&& (1 : Int32)) = 0 then (
F_X11_restore_29  σ) else (
cR (σ.2.2 a0 5) (okr kC NC 10) fun z4 =>
cR (σ.2.2 a0 8) (okr kC NC 105) fun z5 =>
cG (inb l1 (kC z5).2) <|
cR (σ.2.2 z5 l1.toNatClampNeg) (okr kC NC 10) fun z7 =>
(F_X10_copy z4 z7 σ).bind fun σ9 =>
cR (σ9.2.2 a0 7) (okr kC NC 2) fun z10 =>
cL (uI σ9 z10 2 (0 : Int32)) fun σ11 =>
some (((1 : Int32), σ11)))))
section
variable {p : Program} {l : Launch} {e : Env} {s : State} {m : MethodId} {args : Array Value} {below : List Frame} {meth : Method} {c : Code} {D : va_G} {ay : Nat → ClassId} {ad : Nat → Nat}
set_option maxRecDepth 100000 in
set_option maxHeartbeats 4000000 in
theorem B_X11_restore_29 {H : Heap} {locs : List Loc} {ls : Array Slot} {r0 : Int32} {σ0 : hSt}  (σ : hSt) (G : Gx p m c cX11_restore 2 s args RX11 D ay NC ad (aN NC ad)) (hm : meth.sig.returnType = (some .boolean) ∧ meth.locks = false)  (hf : F_X11_restore_29  σ = some (r0, σ0))  (w : Wd D ay kC NC ad (aN NC ad) s σ H locs) (hl : lv_has ls 2 []) : W p l e (rmK 2 81) s m args below meth c H locs 0 0 (MQ below (cI D ay kC NC ad r0 σ0) args s 0 0 (aN NC ad)) (F0 m 29 ls []) := by
  unfold F_X11_restore_29 at hf
  refine lv_iconst (v := (0 : Int32)) G.hx G.hb (dcs_get dec_X11_restore_0 17 rfl) (by decide) ?_
  have e9 := Option.some.inj hf
  exact r_zret rfl G w hm (congrArg Prod.fst e9) (congrArg Prod.snd e9) (dcs_get dec_X11_restore_0 18 rfl)
set_option maxRecDepth 100000 in
set_option maxHeartbeats 4000000 in
theorem B_X11_restore_0 {H : Heap} {locs : List Loc} {ls : Array Slot} {r0 : Int32} {σ0 : hSt} (a0 : Nat) (l1 : Int32) (σ : hSt) (G : Gx p m c cX11_restore 2 s args RX11 D ay NC ad (aN NC ad)) (hm : meth.sig.returnType = (some .boolean) ∧ meth.locks = false) (ok_a0 : okr kC NC 11 a0 = true) (hf : F_X11_restore a0 l1 σ = some (r0, σ0))  (w : Wd D ay kC NC ad (aN NC ad) s σ H locs) (hl : lv_has ls 2 [(0, .ref (ad a0)), (1, .int l1)]) : W p l e (rmK 2 81) s m args below meth c H locs 0 0 (MQ below (cI D ay kC NC ad r0 σ0) args s 0 0 (aN NC ad)) (F0 m 0 ls []) := by
  have k_a0 := okr_in ok_a0
  unfold F_X11_restore at hf
  refine lv_iload_n G.hx G.hb (dcs_get dec_X11_restore_0 0 rfl) rfl (lv_at hl 1 rfl) ?_
  refine lv_if_lt (tgt := 29) G.hx G.hb (dcs_get dec_X11_restore_0 1 rfl) (by decide) (fun hc => ?_) (fun hc => ?_)
  · rw [if_pos hc] at hf
    exact B_X11_restore_29  σ G hm  hf  w (lv_sub hl [] rfl)
  · rw [if_neg hc] at hf
    refine lv_iload_n G.hx G.hb (dcs_get dec_X11_restore_0 2 rfl) rfl (lv_at hl 1 rfl) ?_
    refine lv_iconst (v := (3 : Int32)) G.hx G.hb (dcs_get dec_X11_restore_0 3 rfl) (by decide) ?_
    refine lv_icmp_ge (tgt := 29) G.hx G.hb (dcs_get dec_X11_restore_0 4 rfl) (by decide) (fun hc => ?_) (fun hc => ?_)
    · rw [if_pos hc] at hf
      exact B_X11_restore_29  σ G hm  hf  w (lv_sub hl [] rfl)
    · rw [if_neg hc] at hf
      refine lv_aload_n G.hx G.hb (dcs_get dec_X11_restore_0 5 rfl) rfl (lv_at hl 0 rfl) ?_
      obtain ⟨z1, e_z1, ok_z1, hf⟩ := cR_some hf
      have k_z1 := okr_in ok_z1
      refine r_getr (k := 8) cls11 fi_11_8.1 fi_11_8.2 q_399 G w k_a0.1 k_a0.2 e_z1 (dcs_get dec_X11_restore_0 6 rfl) ?_
      refine lv_iload_n G.hx G.hb (dcs_get dec_X11_restore_0 7 rfl) rfl (lv_at hl 1 rfl) ?_
      obtain ⟨h2, hf⟩ := cG_some hf
      obtain ⟨z3, e_z3, ok_z3, hf⟩ := cR_some hf
      have k_z3 := okr_in ok_z3
      refine r_aald G w k_z1.1 k_z1.2 h2 e_z3 (dcs_get dec_X11_restore_0 8 rfl) ?_
      refine lv_ifnull G.hx G.hb (dcs_get dec_X11_restore_0 9 rfl) ?_
      refine lv_aload_n G.hx G.hb (dcs_get dec_X11_restore_0 10 rfl) rfl (lv_at hl 0 rfl) ?_
      refine r_geti (k := 9) cls11 fi_11_9.1 fi_11_9.2 q_400 G w k_a0.1 k_a0.2 (dcs_get dec_X11_restore_0 11 rfl) ?_
      refine lv_iload_n G.hx G.hb (dcs_get dec_X11_restore_0 12 rfl) rfl (lv_at hl 1 rfl) ?_
      refine lv_ishr G.hx G.hb (dcs_get dec_X11_restore_0 13 rfl) ?_
      refine lv_iconst (v := (1 : Int32)) G.hx G.hb (dcs_get dec_X11_restore_0 14 rfl) (by decide) ?_
      refine lv_iand G.hx G.hb (dcs_get dec_X11_restore_0 15 rfl) ?_
      refine lv_if_ne (tgt := 31) G.hx G.hb (dcs_get dec_X11_restore_0 16 rfl) (by decide) (fun hc => ?_) (fun hc => ?_)
      · rw [if_neg hc] at hf
        refine lv_aload_n G.hx G.hb (dcs_get dec_X11_restore_0 19 rfl) rfl (lv_at hl 0 rfl) ?_
        obtain ⟨z4, e_z4, ok_z4, hf⟩ := cR_some hf
        have k_z4 := okr_in ok_z4
        refine r_getr (k := 5) cls11 fi_11_5.1 fi_11_5.2 q_396 G w k_a0.1 k_a0.2 e_z4 (dcs_get dec_X11_restore_0 20 rfl) ?_
        refine lv_aload_n G.hx G.hb (dcs_get dec_X11_restore_0 21 rfl) rfl (lv_at hl 0 rfl) ?_
        obtain ⟨z5, e_z5, ok_z5, hf⟩ := cR_some hf
        have k_z5 := okr_in ok_z5
        refine r_getr (k := 8) cls11 fi_11_8.1 fi_11_8.2 q_399 G w k_a0.1 k_a0.2 e_z5 (dcs_get dec_X11_restore_0 22 rfl) ?_
        refine lv_iload_n G.hx G.hb (dcs_get dec_X11_restore_0 23 rfl) rfl (lv_at hl 1 rfl) ?_
        obtain ⟨h6, hf⟩ := cG_some hf
        obtain ⟨z7, e_z7, ok_z7, hf⟩ := cR_some hf
        have k_z7 := okr_in ok_z7
        refine r_aald G w k_z5.1 k_z5.2 h6 e_z7 (dcs_get dec_X11_restore_0 24 rfl) ?_
        obtain ⟨σ9, h8, hf⟩ := cB_some hf
        refine a_v (k_VN (As := [.ref (ad z7)]) (rest := []) cls10 lb_X10_copy lv_X10_copy nm_839 (C_X10_copy G.2.2.1 z4 z7 σ h8 ok_z4 ok_z7) ⟨(Nat.le_of_ble_eq_true rfl), (Nat.le_of_ble_eq_true rfl)⟩ G w k_z4.1 k_z4.2 rfl rfl hl.1 (Nat.le_of_ble_eq_true rfl) (dcs_get dec_X11_restore_0 25 rfl) ⟨Nat.le_refl _, Nat.le_refl _⟩) G w (fun H locs w => ?_)
        refine lv_aload_n G.hx G.hb (dcs_get dec_X11_restore_0 26 rfl) rfl (lv_at hl 0 rfl) ?_
        obtain ⟨z10, e_z10, ok_z10, hf⟩ := cR_some hf
        have k_z10 := okr_in ok_z10
        refine r_getr (k := 7) cls11 fi_11_7.1 fi_11_7.2 q_398 G w k_a0.1 k_a0.2 e_z10 (dcs_get dec_X11_restore_0 27 rfl) ?_
        refine lv_iconst (v := (0 : Int32)) G.hx G.hb (dcs_get dec_X11_restore_0 28 rfl) (by decide) ?_
        obtain ⟨σ11, e_σ11, hf⟩ := cL_some hf
        refine r_putiN (k := 2) cls2 ct2 fi_2_2.1 fi_2_2.2 fp_2_2.1 fp_2_2.2 nf_294 rfl rfl G w k_z10.1 k_z10.2 (dcs_get dec_X11_restore_0 29 rfl) (fun H locs w => ?_)
        have w := Wd.nm e_σ11 w
        refine lv_iconst (v := (1 : Int32)) G.hx G.hb (dcs_get dec_X11_restore_0 30 rfl) (by decide) ?_
        have e9 := Option.some.inj hf
        exact r_zret rfl G w hm (congrArg Prod.fst e9) (congrArg Prod.snd e9) (dcs_get dec_X11_restore_0 31 rfl)
      · rw [if_pos hc] at hf
        exact B_X11_restore_29  σ G hm  hf  w (lv_sub hl [] rfl)
end
set_option maxRecDepth 100000 in
set_option maxHeartbeats 4000000 in
theorem C_X11_restore {l : Launch} {D : va_G} {ay : Nat → ClassId} {ad : Nat → Nat} (hi : hInj NC ad) (a0 : Nat) (l1 : Int32) (σ : hSt) {r0 : Int32} {σ0 : hSt} (hf : F_X11_restore a0 l1 σ = some (r0, σ0)) (ok_a0 : okr kC NC 11 a0 = true) : hM l D ay kC NC ad yX11_restore cX11_restore 2 ((some .boolean)) (rmK 2 81) [.ref (ad a0), .int l1] σ (cI D ay kC NC ad r0 σ0) := by
  refine hM_in (by decide) hi (Nat.le_of_ble_eq_true rfl) ?_
  intro p e s m below meth c G hm w ls hl
  exact B_X11_restore_0 a0 l1 σ G hm ok_a0 hf w (lv_sub hl [0, 1] rfl)

/-! HillDrums.count(I)I -/
def DL_X11_count_0 : List (Nat × Instr × Nat) := [(0, .iload_n 1, 1), (1, .tableswitch 192 0 13 #[71, 79, 87, 95, 103, 111, 119, 127, 138, 149, 157, 165, 173, 181], 71), (72, .aload_n 0, 1), (73, .getfield 19, 3), (76, .getfield 114, 3), (79, .ireturn, 1), (80, .aload_n 0, 1), (81, .getfield 19, 3), (84, .getfield 117, 3), (87, .ireturn, 1), (88, .aload_n 0, 1), (89, .getfield 42, 3), (92, .getfield 157, 3), (95, .ireturn, 1), (96, .aload_n 0, 1), (97, .getfield 42, 3), (100, .getfield 192, 3), (103, .ireturn, 1), (104, .aload_n 0, 1), (105, .getfield 42, 3), (108, .getfield 223, 3), (111, .ireturn, 1), (112, .aload_n 0, 1), (113, .getfield 19, 3), (116, .getfield 185, 3), (119, .ireturn, 1), (120, .aload_n 0, 1), (121, .getfield 19, 3), (124, .getfield 264, 3), (127, .ireturn, 1), (128, .aload_n 0, 1), (129, .getfield 19, 3), (132, .getfield 267, 3), (135, .getfield 271, 3), (138, .ireturn, 1), (139, .aload_n 0, 1), (140, .getfield 19, 3), (143, .getfield 274, 3), (146, .getfield 271, 3), (149, .ireturn, 1)]
set_option maxRecDepth 100000 in
theorem dec_X11_count_0 : dcs cX11_count DL_X11_count_0 = true := by decide +kernel
def DL_X11_count_1 : List (Nat × Instr × Nat) := [(150, .aload_n 0, 1), (151, .getfield 10, 3), (154, .getfield 90, 3), (157, .ireturn, 1), (158, .aload_n 0, 1), (159, .getfield 52, 3), (162, .getfield 110, 3), (165, .ireturn, 1), (166, .aload_n 0, 1), (167, .getfield 66, 3), (170, .getfield 113, 3), (173, .ireturn, 1), (174, .aload_n 0, 1), (175, .getfield 60, 3), (178, .invokestatic 176, 3), (181, .ireturn, 1), (182, .aload_n 0, 1), (183, .getfield 42, 3), (186, .getfield 216, 3), (189, .invokestatic 176, 3), (192, .ireturn, 1), (193, .iconst (-1), 1), (194, .ireturn, 1)]
set_option maxRecDepth 100000 in
theorem dec_X11_count_1 : dcs cX11_count DL_X11_count_1 = true := by decide +kernel
theorem lb_X11_count : lkB yX11_count cX11_count 2 ((some .int)) 1 := ⟨q_983, q_1, ⟨by decide, by decide⟩, by decide +kernel⟩
theorem lv_X11_count : lkV yX11_count := ⟨q_981, q_982⟩
def F_X11_count (a0 : Nat) (l1 : Int32) (σ : hSt) : Option (Int32) :=
if l1 = (0 : Int32) then (
cR (σ.2.2 a0 1) (okr kC NC 7) fun z1 =>
some (σ.1 z1 0)) else (
if l1 = (1 : Int32) then (
cR (σ.2.2 a0 1) (okr kC NC 7) fun z2 =>
some (σ.1 z2 3)) else (
if l1 = (2 : Int32) then (
cR (σ.2.2 a0 5) (okr kC NC 10) fun z3 =>
some (σ.1 z3 0)) else (
if l1 = (3 : Int32) then (
cR (σ.2.2 a0 5) (okr kC NC 10) fun z4 =>
some (σ.1 z4 7)) else (
if l1 = (4 : Int32) then (
cR (σ.2.2 a0 5) (okr kC NC 10) fun z5 =>
some (σ.1 z5 8)) else (
if l1 = (5 : Int32) then (
cR (σ.2.2 a0 1) (okr kC NC 7) fun z6 =>
some (σ.1 z6 8)) else (
if l1 = (6 : Int32) then (
cR (σ.2.2 a0 1) (okr kC NC 7) fun z7 =>
some (σ.1 z7 9)) else (
if l1 = (7 : Int32) then (
cR (σ.2.2 a0 1) (okr kC NC 7) fun z8 =>
cR (σ.2.2 z8 6) (okr kC NC 5) fun z9 =>
some (σ.1 z9 1)) else (
if l1 = (8 : Int32) then (
cR (σ.2.2 a0 1) (okr kC NC 7) fun z10 =>
cR (σ.2.2 z10 7) (okr kC NC 5) fun z11 =>
some (σ.1 z11 1)) else (
if l1 = (9 : Int32) then (
cR (σ.2.2 a0 0) (okr kC NC 6) fun z12 =>
some (σ.1 z12 1)) else (
if l1 = (10 : Int32) then (
cR (σ.2.2 a0 7) (okr kC NC 2) fun z13 =>
some (σ.1 z13 2)) else (
if l1 = (11 : Int32) then (
cR (σ.2.2 a0 10) (okr kC NC 9) fun z14 =>
some (σ.1 z14 3)) else (
if l1 = (12 : Int32) then (
(F_J6_bitCount_0f7a4 (σ.1 a0 9) σ).bind fun v16 =>
some (v16)) else (
if l1 = (13 : Int32) then (
cR (σ.2.2 a0 5) (okr kC NC 10) fun z17 =>
(F_J6_bitCount_0f7a4 (σ.1 z17 1) σ).bind fun v19 =>
some (v19)) else (
some ((-1 : Int32))))))))))))))))
section
variable {p : Program} {l : Launch} {e : Env} {s : State} {m : MethodId} {args : Array Value} {below : List Frame} {meth : Method} {c : Code} {D : va_G} {ay : Nat → ClassId} {ad : Nat → Nat}
set_option maxRecDepth 100000 in
set_option maxHeartbeats 4000000 in
theorem B_X11_count_0 {H : Heap} {locs : List Loc} {ls : Array Slot} {r0 : Int32} (a0 : Nat) (l1 : Int32) (σ : hSt) (G : Gx p m c cX11_count 2 s args RX11 D ay NC ad (aN NC ad)) (hm : meth.sig.returnType = (some .int) ∧ meth.locks = false) (ok_a0 : okr kC NC 11 a0 = true) (hf : F_X11_count a0 l1 σ = some r0)  (w : Wd D ay kC NC ad (aN NC ad) s σ H locs) (hl : lv_has ls 2 [(0, .ref (ad a0)), (1, .int l1)]) : W p l e (rmK 1 20) s m args below meth c H locs 0 0 (MQ below (cI D ay kC NC ad r0 σ) args s 0 0 (aN NC ad)) (F0 m 0 ls []) := by
  have k_a0 := okr_in ok_a0
  unfold F_X11_count at hf
  refine lv_iload_n G.hx G.hb (dcs_get dec_X11_count_0 0 rfl) rfl (lv_at hl 1 rfl) ?_
  by_cases hc0 : l1 = (0 : Int32)
  · rw [if_pos hc0] at hf
    refine r_tIn (k := (0 : Int32)) (tgt := 72) G.hx G.hb (dcs_get dec_X11_count_0 1 rfl) hc0 (by decide) rfl (by decide) ?_
    refine lv_aload_n G.hx G.hb (dcs_get dec_X11_count_0 2 rfl) rfl (lv_at hl 0 rfl) ?_
    obtain ⟨z1, e_z1, ok_z1, hf⟩ := cR_some hf
    have k_z1 := okr_in ok_z1
    refine r_getr (k := 1) cls11 fi_11_1.1 fi_11_1.2 q_392 G w k_a0.1 k_a0.2 e_z1 (dcs_get dec_X11_count_0 3 rfl) ?_
    refine r_getiN (k := 0) cls7 fi_7_0.1 fi_7_0.2 nf_94 G w k_z1.1 k_z1.2 (dcs_get dec_X11_count_0 4 rfl) ?_
    have e9 := Option.some.inj hf
    exact r_iret G w hm e9 rfl (dcs_get dec_X11_count_0 5 rfl)
  rw [if_neg hc0] at hf
  by_cases hc1 : l1 = (1 : Int32)
  · rw [if_pos hc1] at hf
    refine r_tIn (k := (1 : Int32)) (tgt := 80) G.hx G.hb (dcs_get dec_X11_count_0 1 rfl) hc1 (by decide) rfl (by decide) ?_
    refine lv_aload_n G.hx G.hb (dcs_get dec_X11_count_0 6 rfl) rfl (lv_at hl 0 rfl) ?_
    obtain ⟨z2, e_z2, ok_z2, hf⟩ := cR_some hf
    have k_z2 := okr_in ok_z2
    refine r_getr (k := 1) cls11 fi_11_1.1 fi_11_1.2 q_392 G w k_a0.1 k_a0.2 e_z2 (dcs_get dec_X11_count_0 7 rfl) ?_
    refine r_getiN (k := 3) cls7 fi_7_3.1 fi_7_3.2 nf_104 G w k_z2.1 k_z2.2 (dcs_get dec_X11_count_0 8 rfl) ?_
    have e9 := Option.some.inj hf
    exact r_iret G w hm e9 rfl (dcs_get dec_X11_count_0 9 rfl)
  rw [if_neg hc1] at hf
  by_cases hc2 : l1 = (2 : Int32)
  · rw [if_pos hc2] at hf
    refine r_tIn (k := (2 : Int32)) (tgt := 88) G.hx G.hb (dcs_get dec_X11_count_0 1 rfl) hc2 (by decide) rfl (by decide) ?_
    refine lv_aload_n G.hx G.hb (dcs_get dec_X11_count_0 10 rfl) rfl (lv_at hl 0 rfl) ?_
    obtain ⟨z3, e_z3, ok_z3, hf⟩ := cR_some hf
    have k_z3 := okr_in ok_z3
    refine r_getr (k := 5) cls11 fi_11_5.1 fi_11_5.2 q_396 G w k_a0.1 k_a0.2 e_z3 (dcs_get dec_X11_count_0 11 rfl) ?_
    refine r_getiN (k := 0) cls10 fi_10_0.1 fi_10_0.2 nf_236 G w k_z3.1 k_z3.2 (dcs_get dec_X11_count_0 12 rfl) ?_
    have e9 := Option.some.inj hf
    exact r_iret G w hm e9 rfl (dcs_get dec_X11_count_0 13 rfl)
  rw [if_neg hc2] at hf
  by_cases hc3 : l1 = (3 : Int32)
  · rw [if_pos hc3] at hf
    refine r_tIn (k := (3 : Int32)) (tgt := 96) G.hx G.hb (dcs_get dec_X11_count_0 1 rfl) hc3 (by decide) rfl (by decide) ?_
    refine lv_aload_n G.hx G.hb (dcs_get dec_X11_count_0 14 rfl) rfl (lv_at hl 0 rfl) ?_
    obtain ⟨z4, e_z4, ok_z4, hf⟩ := cR_some hf
    have k_z4 := okr_in ok_z4
    refine r_getr (k := 5) cls11 fi_11_5.1 fi_11_5.2 q_396 G w k_a0.1 k_a0.2 e_z4 (dcs_get dec_X11_count_0 15 rfl) ?_
    refine r_getiN (k := 7) cls10 fi_10_7.1 fi_10_7.2 nf_247 G w k_z4.1 k_z4.2 (dcs_get dec_X11_count_0 16 rfl) ?_
    have e9 := Option.some.inj hf
    exact r_iret G w hm e9 rfl (dcs_get dec_X11_count_0 17 rfl)
  rw [if_neg hc3] at hf
  by_cases hc4 : l1 = (4 : Int32)
  · rw [if_pos hc4] at hf
    refine r_tIn (k := (4 : Int32)) (tgt := 104) G.hx G.hb (dcs_get dec_X11_count_0 1 rfl) hc4 (by decide) rfl (by decide) ?_
    refine lv_aload_n G.hx G.hb (dcs_get dec_X11_count_0 18 rfl) rfl (lv_at hl 0 rfl) ?_
    obtain ⟨z5, e_z5, ok_z5, hf⟩ := cR_some hf
    have k_z5 := okr_in ok_z5
    refine r_getr (k := 5) cls11 fi_11_5.1 fi_11_5.2 q_396 G w k_a0.1 k_a0.2 e_z5 (dcs_get dec_X11_count_0 19 rfl) ?_
    refine r_getiN (k := 8) cls10 fi_10_8.1 fi_10_8.2 nf_249 G w k_z5.1 k_z5.2 (dcs_get dec_X11_count_0 20 rfl) ?_
    have e9 := Option.some.inj hf
    exact r_iret G w hm e9 rfl (dcs_get dec_X11_count_0 21 rfl)
  rw [if_neg hc4] at hf
  by_cases hc5 : l1 = (5 : Int32)
  · rw [if_pos hc5] at hf
    refine r_tIn (k := (5 : Int32)) (tgt := 112) G.hx G.hb (dcs_get dec_X11_count_0 1 rfl) hc5 (by decide) rfl (by decide) ?_
    refine lv_aload_n G.hx G.hb (dcs_get dec_X11_count_0 22 rfl) rfl (lv_at hl 0 rfl) ?_
    obtain ⟨z6, e_z6, ok_z6, hf⟩ := cR_some hf
    have k_z6 := okr_in ok_z6
    refine r_getr (k := 1) cls11 fi_11_1.1 fi_11_1.2 q_392 G w k_a0.1 k_a0.2 e_z6 (dcs_get dec_X11_count_0 23 rfl) ?_
    refine r_getiN (k := 8) cls7 fi_7_8.1 fi_7_8.2 nf_120 G w k_z6.1 k_z6.2 (dcs_get dec_X11_count_0 24 rfl) ?_
    have e9 := Option.some.inj hf
    exact r_iret G w hm e9 rfl (dcs_get dec_X11_count_0 25 rfl)
  rw [if_neg hc5] at hf
  by_cases hc6 : l1 = (6 : Int32)
  · rw [if_pos hc6] at hf
    refine r_tIn (k := (6 : Int32)) (tgt := 120) G.hx G.hb (dcs_get dec_X11_count_0 1 rfl) hc6 (by decide) rfl (by decide) ?_
    refine lv_aload_n G.hx G.hb (dcs_get dec_X11_count_0 26 rfl) rfl (lv_at hl 0 rfl) ?_
    obtain ⟨z7, e_z7, ok_z7, hf⟩ := cR_some hf
    have k_z7 := okr_in ok_z7
    refine r_getr (k := 1) cls11 fi_11_1.1 fi_11_1.2 q_392 G w k_a0.1 k_a0.2 e_z7 (dcs_get dec_X11_count_0 27 rfl) ?_
    refine r_getiN (k := 9) cls7 fi_7_9.1 fi_7_9.2 nf_125 G w k_z7.1 k_z7.2 (dcs_get dec_X11_count_0 28 rfl) ?_
    have e9 := Option.some.inj hf
    exact r_iret G w hm e9 rfl (dcs_get dec_X11_count_0 29 rfl)
  rw [if_neg hc6] at hf
  by_cases hc7 : l1 = (7 : Int32)
  · rw [if_pos hc7] at hf
    refine r_tIn (k := (7 : Int32)) (tgt := 128) G.hx G.hb (dcs_get dec_X11_count_0 1 rfl) hc7 (by decide) rfl (by decide) ?_
    refine lv_aload_n G.hx G.hb (dcs_get dec_X11_count_0 30 rfl) rfl (lv_at hl 0 rfl) ?_
    obtain ⟨z8, e_z8, ok_z8, hf⟩ := cR_some hf
    have k_z8 := okr_in ok_z8
    refine r_getr (k := 1) cls11 fi_11_1.1 fi_11_1.2 q_392 G w k_a0.1 k_a0.2 e_z8 (dcs_get dec_X11_count_0 31 rfl) ?_
    obtain ⟨z9, e_z9, ok_z9, hf⟩ := cR_some hf
    have k_z9 := okr_in ok_z9
    refine r_getrN (k := 6) cls7 fi_7_6.1 fi_7_6.2 nf_113 G w k_z8.1 k_z8.2 e_z9 (dcs_get dec_X11_count_0 32 rfl) ?_
    refine r_getiN (k := 1) cls5 fi_5_1.1 fi_5_1.2 nf_85 G w k_z9.1 k_z9.2 (dcs_get dec_X11_count_0 33 rfl) ?_
    have e9 := Option.some.inj hf
    exact r_iret G w hm e9 rfl (dcs_get dec_X11_count_0 34 rfl)
  rw [if_neg hc7] at hf
  by_cases hc8 : l1 = (8 : Int32)
  · rw [if_pos hc8] at hf
    refine r_tIn (k := (8 : Int32)) (tgt := 139) G.hx G.hb (dcs_get dec_X11_count_0 1 rfl) hc8 (by decide) rfl (by decide) ?_
    refine lv_aload_n G.hx G.hb (dcs_get dec_X11_count_0 35 rfl) rfl (lv_at hl 0 rfl) ?_
    obtain ⟨z10, e_z10, ok_z10, hf⟩ := cR_some hf
    have k_z10 := okr_in ok_z10
    refine r_getr (k := 1) cls11 fi_11_1.1 fi_11_1.2 q_392 G w k_a0.1 k_a0.2 e_z10 (dcs_get dec_X11_count_0 36 rfl) ?_
    obtain ⟨z11, e_z11, ok_z11, hf⟩ := cR_some hf
    have k_z11 := okr_in ok_z11
    refine r_getrN (k := 7) cls7 fi_7_7.1 fi_7_7.2 nf_116 G w k_z10.1 k_z10.2 e_z11 (dcs_get dec_X11_count_0 37 rfl) ?_
    refine r_getiN (k := 1) cls5 fi_5_1.1 fi_5_1.2 nf_85 G w k_z11.1 k_z11.2 (dcs_get dec_X11_count_0 38 rfl) ?_
    have e9 := Option.some.inj hf
    exact r_iret G w hm e9 rfl (dcs_get dec_X11_count_0 39 rfl)
  rw [if_neg hc8] at hf
  by_cases hc9 : l1 = (9 : Int32)
  · rw [if_pos hc9] at hf
    refine r_tIn (k := (9 : Int32)) (tgt := 150) G.hx G.hb (dcs_get dec_X11_count_0 1 rfl) hc9 (by decide) rfl (by decide) ?_
    refine lv_aload_n G.hx G.hb (dcs_get dec_X11_count_1 0 rfl) rfl (lv_at hl 0 rfl) ?_
    obtain ⟨z12, e_z12, ok_z12, hf⟩ := cR_some hf
    have k_z12 := okr_in ok_z12
    refine r_getr (k := 0) cls11 fi_11_0.1 fi_11_0.2 q_391 G w k_a0.1 k_a0.2 e_z12 (dcs_get dec_X11_count_1 1 rfl) ?_
    refine r_getiN (k := 1) cls6 fi_6_1.1 fi_6_1.2 nf_39 G w k_z12.1 k_z12.2 (dcs_get dec_X11_count_1 2 rfl) ?_
    have e9 := Option.some.inj hf
    exact r_iret G w hm e9 rfl (dcs_get dec_X11_count_1 3 rfl)
  rw [if_neg hc9] at hf
  by_cases hc10 : l1 = (10 : Int32)
  · rw [if_pos hc10] at hf
    refine r_tIn (k := (10 : Int32)) (tgt := 158) G.hx G.hb (dcs_get dec_X11_count_0 1 rfl) hc10 (by decide) rfl (by decide) ?_
    refine lv_aload_n G.hx G.hb (dcs_get dec_X11_count_1 4 rfl) rfl (lv_at hl 0 rfl) ?_
    obtain ⟨z13, e_z13, ok_z13, hf⟩ := cR_some hf
    have k_z13 := okr_in ok_z13
    refine r_getr (k := 7) cls11 fi_11_7.1 fi_11_7.2 q_398 G w k_a0.1 k_a0.2 e_z13 (dcs_get dec_X11_count_1 5 rfl) ?_
    refine r_getiN (k := 2) cls2 fi_2_2.1 fi_2_2.2 nf_294 G w k_z13.1 k_z13.2 (dcs_get dec_X11_count_1 6 rfl) ?_
    have e9 := Option.some.inj hf
    exact r_iret G w hm e9 rfl (dcs_get dec_X11_count_1 7 rfl)
  rw [if_neg hc10] at hf
  by_cases hc11 : l1 = (11 : Int32)
  · rw [if_pos hc11] at hf
    refine r_tIn (k := (11 : Int32)) (tgt := 166) G.hx G.hb (dcs_get dec_X11_count_0 1 rfl) hc11 (by decide) rfl (by decide) ?_
    refine lv_aload_n G.hx G.hb (dcs_get dec_X11_count_1 8 rfl) rfl (lv_at hl 0 rfl) ?_
    obtain ⟨z14, e_z14, ok_z14, hf⟩ := cR_some hf
    have k_z14 := okr_in ok_z14
    refine r_getr (k := 10) cls11 fi_11_10.1 fi_11_10.2 q_401 G w k_a0.1 k_a0.2 e_z14 (dcs_get dec_X11_count_1 9 rfl) ?_
    refine r_getiN (k := 3) cls9 fi_9_3.1 fi_9_3.2 nf_312 G w k_z14.1 k_z14.2 (dcs_get dec_X11_count_1 10 rfl) ?_
    have e9 := Option.some.inj hf
    exact r_iret G w hm e9 rfl (dcs_get dec_X11_count_1 11 rfl)
  rw [if_neg hc11] at hf
  by_cases hc12 : l1 = (12 : Int32)
  · rw [if_pos hc12] at hf
    refine r_tIn (k := (12 : Int32)) (tgt := 174) G.hx G.hb (dcs_get dec_X11_count_0 1 rfl) hc12 (by decide) rfl (by decide) ?_
    refine lv_aload_n G.hx G.hb (dcs_get dec_X11_count_1 12 rfl) rfl (lv_at hl 0 rfl) ?_
    refine r_geti (k := 9) cls11 fi_11_9.1 fi_11_9.2 q_400 G w k_a0.1 k_a0.2 (dcs_get dec_X11_count_1 13 rfl) ?_
    obtain ⟨v16, h15, hf⟩ := cB_some hf
    refine a_i (k_S (As := [.int (σ.1 a0 9)]) (rest := []) lb_J6_bitCount_0f7a4 q_784 q_783 (C_J6_bitCount_0f7a4 G.2.2.1 (σ.1 a0 9) σ h15 ) ⟨(Nat.le_of_ble_eq_true rfl), (Nat.le_of_ble_eq_true rfl)⟩ G w rfl rfl hl.1 (Nat.le_of_ble_eq_true rfl) (dcs_get dec_X11_count_1 14 rfl) ⟨Nat.le_refl _, Nat.le_refl _⟩) G w (fun H locs w => ?_)
    have e9 := Option.some.inj hf
    exact r_iret G w hm e9 rfl (dcs_get dec_X11_count_1 15 rfl)
  rw [if_neg hc12] at hf
  by_cases hc13 : l1 = (13 : Int32)
  · rw [if_pos hc13] at hf
    refine r_tIn (k := (13 : Int32)) (tgt := 182) G.hx G.hb (dcs_get dec_X11_count_0 1 rfl) hc13 (by decide) rfl (by decide) ?_
    refine lv_aload_n G.hx G.hb (dcs_get dec_X11_count_1 16 rfl) rfl (lv_at hl 0 rfl) ?_
    obtain ⟨z17, e_z17, ok_z17, hf⟩ := cR_some hf
    have k_z17 := okr_in ok_z17
    refine r_getr (k := 5) cls11 fi_11_5.1 fi_11_5.2 q_396 G w k_a0.1 k_a0.2 e_z17 (dcs_get dec_X11_count_1 17 rfl) ?_
    refine r_getiN (k := 1) cls10 fi_10_1.1 fi_10_1.2 nf_239 G w k_z17.1 k_z17.2 (dcs_get dec_X11_count_1 18 rfl) ?_
    obtain ⟨v19, h18, hf⟩ := cB_some hf
    refine a_i (k_S (As := [.int (σ.1 z17 1)]) (rest := []) lb_J6_bitCount_0f7a4 q_784 q_783 (C_J6_bitCount_0f7a4 G.2.2.1 (σ.1 z17 1) σ h18 ) ⟨(Nat.le_of_ble_eq_true rfl), (Nat.le_of_ble_eq_true rfl)⟩ G w rfl rfl hl.1 (Nat.le_of_ble_eq_true rfl) (dcs_get dec_X11_count_1 19 rfl) ⟨Nat.le_refl _, Nat.le_refl _⟩) G w (fun H locs w => ?_)
    have e9 := Option.some.inj hf
    exact r_iret G w hm e9 rfl (dcs_get dec_X11_count_1 20 rfl)
  rw [if_neg hc13] at hf
  refine lv_tableOut (tgt := 193) G.hx G.hb (dcs_get dec_X11_count_0 1 rfl) (ts_out [(0 : Int32), (1 : Int32), (2 : Int32), (3 : Int32), (4 : Int32), (5 : Int32), (6 : Int32), (7 : Int32), (8 : Int32), (9 : Int32), (10 : Int32), (11 : Int32), (12 : Int32), (13 : Int32)] (by intro z h1 h2; simp only [List.map]; rcases (show z = 0 ∨ z = 1 ∨ z = 2 ∨ z = 3 ∨ z = 4 ∨ z = 5 ∨ z = 6 ∨ z = 7 ∨ z = 8 ∨ z = 9 ∨ z = 10 ∨ z = 11 ∨ z = 12 ∨ z = 13 by omega) with h4 | h4 | h4 | h4 | h4 | h4 | h4 | h4 | h4 | h4 | h4 | h4 | h4 | h4 <;> subst h4 <;> decide) (by simp only [List.forall_mem_cons]; exact ⟨hc0, hc1, hc2, hc3, hc4, hc5, hc6, hc7, hc8, hc9, hc10, hc11, hc12, hc13, fun _ h => absurd h List.not_mem_nil⟩)) (by decide) ?_
  refine lv_iconst (v := (-1 : Int32)) G.hx G.hb (dcs_get dec_X11_count_1 21 rfl) (by decide) ?_
  have e9 := Option.some.inj hf
  exact r_iret G w hm e9 rfl (dcs_get dec_X11_count_1 22 rfl)
end
set_option maxRecDepth 100000 in
set_option maxHeartbeats 4000000 in
theorem C_X11_count {l : Launch} {D : va_G} {ay : Nat → ClassId} {ad : Nat → Nat} (hi : hInj NC ad) (a0 : Nat) (l1 : Int32) (σ : hSt) {r0 : Int32} (hf : F_X11_count a0 l1 σ = some r0) (ok_a0 : okr kC NC 11 a0 = true) : hM l D ay kC NC ad yX11_count cX11_count 2 ((some .int)) (rmK 1 20) [.ref (ad a0), .int l1] σ (cI D ay kC NC ad r0 σ) := by
  refine hM_in (by decide) hi (Nat.le_of_ble_eq_true rfl) ?_
  intro p e s m below meth c G hm w ls hl
  exact B_X11_count_0 a0 l1 σ G hm ok_a0 hf w (lv_sub hl [0, 1] rfl)
