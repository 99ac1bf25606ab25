/-! HillDrumsModel.put(I)V -/
def DL_X12_put_0 : List (Nat × Instr × Nat) := [(0, .bipush 24, 2), (2, .istore_n 2, 1), (3, .iload_n 2, 1), (4, .ifCond .lt 32, 3), (7, .aload_n 0, 1), (8, .getfield 13, 3), (11, .aload_n 0, 1), (12, .getfield 168, 3), (15, .iload_n 1, 1), (16, .iload_n 2, 1), (17, .ishr, 1), (18, .i2b, 1), (19, .bastore, 1), (20, .aload_n 0, 1), (21, .dup, 1), (22, .getfield 168, 3), (25, .iconst 1, 1), (26, .iadd, 1), (27, .putfield 168, 3), (30, .iinc 2 (-8), 3), (33, .goto (-30), 3), (36, .return_, 1)]
set_option maxRecDepth 100000 in
theorem dec_X12_put_0 : dcs cX12_put DL_X12_put_0 = true := by decide +kernel
theorem lb_X12_put : lkB yX12_put cX12_put 3 (none) 1 := ⟨q_1223, q_14, ⟨by decide, by decide⟩, by decide +kernel⟩
theorem lv_X12_put : lkV yX12_put := ⟨q_1222, qs_67⟩
def F_X12_put_3b (a0 : Nat) (l1 : Int32) (l2 : Int32) (σ : hSt) : Option ((Int32 × hSt) ⊕ (hSt)) :=
if l2 < 0 then (
some (.inr (σ))) else (
cR (σ.2.2 a0 1) (okr kM NM 100) fun z1 =>
cG (inb (σ.1 a0 2) (kM z1).2) <|
cL (uI σ z1 (σ.1 a0 2).toNatClampNeg (vp_nar .byte ((l1 >>> (l2 &&& 31)).toInt8.toInt32))) fun σ3 =>
cL (uI σ3 a0 2 ((σ3.1 a0 2) + (1 : Int32))) fun σ4 =>
cL (l2 + (-8 : Int32)) fun v5 =>
some (.inl (v5, σ4)))
def S_X12_put_3 (a0 : Nat) (l1 : Int32) (v : Int32 × hSt) : Option ((Int32 × hSt) ⊕ (hSt)) := F_X12_put_3b a0 l1 v.1 v.2
def F_X12_put_3 (a0 : Nat) (l1 : Int32) (l2 : Int32) (σ : hSt) : Option (hSt) := lp (S_X12_put_3 a0 l1) fuel (l2, σ)
def F_X12_put (a0 : Nat) (l1 : Int32) (σ : hSt) : Option (hSt) :=
F_X12_put_3 a0 l1 (24 : Int32) σ
section
variable {p : Program} {l : Launch} {e : Env} {s : State} {m : MethodId} {args : Array Value} {below : List Frame} {meth : Method} {c : Code} {D : va_G} {ay : Nat → ClassId} {ad : Nat → Nat}
set_option maxRecDepth 100000 in
set_option maxHeartbeats 4000000 in
theorem B_X12_put_3b {H : Heap} {locs : List Loc} {ls : Array Slot} {σ0 : hSt} {o : (Int32 × hSt) ⊕ (hSt)} (a0 : Nat) (l1 : Int32) (l2 : Int32) (σ : hSt) (G : Gx p m c cX12_put 3 s args RX12 D ay NM ad (aN NM ad)) (hm : meth.sig.returnType = none ∧ meth.locks = false) (ok_a0 : okr kM NM 12 a0 = true) (hf : F_X12_put_3b a0 l1 l2 σ = some o) (hb0 : ∀ (v : Int32 × hSt), o = .inl v → ∀ (H : Heap) (locs : List Loc) (ls : Array Slot), Wd D ay kM NM ad (aN NM ad) s v.2 H locs → lv_has ls 3 [(0, .ref (ad a0)), (1, .int l1), (2, .int v.1)] → W p l e (rmK 0 0) s m args below meth c H locs 0 0 (MQ below (cV D ay kM NM ad σ0) args s 0 0 (aN NM ad)) (F0 m 3 ls [])) (hr : ∀ x, o = .inr (x) → x = σ0) (w : Wd D ay kM NM ad (aN NM ad) s σ H locs) (hl : lv_has ls 3 [(0, .ref (ad a0)), (1, .int l1), (2, .int l2)]) : W p l e (rmK 0 0) s m args below meth c H locs 0 0 (MQ below (cV D ay kM NM ad σ0) args s 0 0 (aN NM ad)) (F0 m 3 ls []) := by
  have k_a0 := okr_in ok_a0
  unfold F_X12_put_3b at hf
  refine lv_iload_n G.hx G.hb (dcs_get dec_X12_put_0 2 rfl) rfl (lv_at hl 2 rfl) ?_
  refine lv_if_lt (tgt := 36) G.hx G.hb (dcs_get dec_X12_put_0 3 rfl) (by decide) (fun hc => ?_) (fun hc => ?_)
  · rw [if_pos hc] at hf
    have e9 := hr _ (Option.some.inj hf).symm
    exact r_vret G w hm e9 (dcs_get dec_X12_put_0 21 rfl)
  · rw [if_neg hc] at hf
    refine lv_aload_n G.hx G.hb (dcs_get dec_X12_put_0 4 rfl) rfl (lv_at hl 0 rfl) ?_
    obtain ⟨z1, e_z1, ok_z1, hf⟩ := cR_some hf
    have k_z1 := okr_in ok_z1
    refine r_getr (k := 1) cls12 fi_12_1.1 fi_12_1.2 q_1009 G w k_a0.1 k_a0.2 e_z1 (dcs_get dec_X12_put_0 5 rfl) ?_
    refine lv_aload_n G.hx G.hb (dcs_get dec_X12_put_0 6 rfl) rfl (lv_at hl 0 rfl) ?_
    refine r_geti (k := 2) cls12 fi_12_2.1 fi_12_2.2 q_1010 G w k_a0.1 k_a0.2 (dcs_get dec_X12_put_0 7 rfl) ?_
    refine lv_iload_n G.hx G.hb (dcs_get dec_X12_put_0 8 rfl) rfl (lv_at hl 1 rfl) ?_
    refine lv_iload_n G.hx G.hb (dcs_get dec_X12_put_0 9 rfl) rfl (lv_at hl 2 rfl) ?_
    refine lv_ishr G.hx G.hb (dcs_get dec_X12_put_0 10 rfl) ?_
    refine lv_i2b G.hx G.hb (dcs_get dec_X12_put_0 11 rfl) rfl ?_
    obtain ⟨h2, hf⟩ := cG_some hf
    obtain ⟨σ3, e_σ3, hf⟩ := cL_some hf
    refine r_bast G w k_z1.1 k_z1.2 h2 (dcs_get dec_X12_put_0 12 rfl) (fun H locs w => ?_)
    have w := Wd.nm e_σ3 w
    refine lv_aload_n G.hx G.hb (dcs_get dec_X12_put_0 13 rfl) rfl (lv_at hl 0 rfl) ?_
    refine lv_dup G.hx G.hb (dcs_get dec_X12_put_0 14 rfl) rfl ?_
    refine r_geti (k := 2) cls12 fi_12_2.1 fi_12_2.2 q_1010 G w k_a0.1 k_a0.2 (dcs_get dec_X12_put_0 15 rfl) ?_
    refine lv_iconst (v := (1 : Int32)) G.hx G.hb (dcs_get dec_X12_put_0 16 rfl) (by decide) ?_
    refine lv_iadd G.hx G.hb (dcs_get dec_X12_put_0 17 rfl) ?_
    obtain ⟨σ4, e_σ4, hf⟩ := cL_some hf
    refine r_puti (k := 2) cls12 ct12 fi_12_2.1 fi_12_2.2 fp_12_2.1 fp_12_2.2 q_1010 rfl rfl G w k_a0.1 k_a0.2 (dcs_get dec_X12_put_0 18 rfl) (fun H locs w => ?_)
    have w := Wd.nm e_σ4 w
    obtain ⟨v5, e_v5, hf⟩ := cL_some hf
    refine lv_iinc (v := v5) (lv' := [(2, .int v5), (0, .ref (ad a0)), (1, .int l1)]) G.hx G.hb (dcs_get dec_X12_put_0 19 rfl) hl (k := 2) rfl (by rw [e_v5]; rfl) (by decide) rfl (fun ls hl => ?_)
    refine lv_goto (tgt := 3) G.hx G.hb (dcs_get dec_X12_put_0 20 rfl) (by decide) ?_
    exact hb0 _ (Option.some.inj hf).symm _ _ _ w (lv_sub hl [1, 2, 0] rfl)
set_option maxRecDepth 100000 in
set_option maxHeartbeats 4000000 in
theorem H_X12_put_3 {σ0 : hSt} (a0 : Nat) (l1 : Int32) (G : Gx p m c cX12_put 3 s args RX12 D ay NM ad (aN NM ad)) (hm : meth.sig.returnType = none ∧ meth.locks = false) (ok_a0 : okr kM NM 12 a0 = true)  : ∀ (k : Nat) (v : Int32 × hSt), lp (S_X12_put_3 a0 l1) k v = some σ0 → ∀ (H : Heap) (locs : List Loc) (ls : Array Slot), Wd D ay kM NM ad (aN NM ad) s v.2 H locs → lv_has ls 3 [(0, .ref (ad a0)), (1, .int l1), (2, .int v.1)] → W p l e (rmK 0 0) s m args below meth c H locs 0 0 (MQ below (cV D ay kM NM ad σ0) args s 0 0 (aN NM ad)) (F0 m 3 ls []) := by
  intro k
  induction k with
  | zero => intro v hf; cases hf
  | succ k ih =>
    intro v hf H locs ls w hl
    obtain ⟨o1, h1, h2, h3⟩ := lp_some hf
    exact B_X12_put_3b a0 l1 v.1 v.2 G hm ok_a0 h1  (fun v' e => ih v' (h2 v' e)) (fun x e => h3 x e) w hl
set_option maxRecDepth 100000 in
set_option maxHeartbeats 4000000 in
theorem B_X12_put_3 {H : Heap} {locs : List Loc} {ls : Array Slot} {σ0 : hSt} (a0 : Nat) (l1 : Int32) (l2 : Int32) (σ : hSt) (G : Gx p m c cX12_put 3 s args RX12 D ay NM ad (aN NM ad)) (hm : meth.sig.returnType = none ∧ meth.locks = false) (ok_a0 : okr kM NM 12 a0 = true) (hf : F_X12_put_3 a0 l1 l2 σ = some σ0)  (w : Wd D ay kM NM ad (aN NM ad) s σ H locs) (hl : lv_has ls 3 [(0, .ref (ad a0)), (1, .int l1), (2, .int l2)]) : W p l e (rmK 0 0) s m args below meth c H locs 0 0 (MQ below (cV D ay kM NM ad σ0) args s 0 0 (aN NM ad)) (F0 m 3 ls []) := by
  unfold F_X12_put_3 at hf
  exact H_X12_put_3 a0 l1  G hm ok_a0  fuel (l2, σ) hf _ _ _ w hl
set_option maxRecDepth 100000 in
set_option maxHeartbeats 4000000 in
theorem B_X12_put_0 {H : Heap} {locs : List Loc} {ls : Array Slot} {σ0 : hSt} (a0 : Nat) (l1 : Int32) (σ : hSt) (G : Gx p m c cX12_put 3 s args RX12 D ay NM ad (aN NM ad)) (hm : meth.sig.returnType = none ∧ meth.locks = false) (ok_a0 : okr kM NM 12 a0 = true) (hf : F_X12_put a0 l1 σ = some σ0)  (w : Wd D ay kM NM ad (aN NM ad) s σ H locs) (hl : lv_has ls 3 [(0, .ref (ad a0)), (1, .int l1)]) : W p l e (rmK 0 0) s m args below meth c H locs 0 0 (MQ below (cV D ay kM NM ad σ0) args s 0 0 (aN NM ad)) (F0 m 0 ls []) := by
  have k_a0 := okr_in ok_a0
  unfold F_X12_put at hf
  refine lv_bipush (v := (24 : Int32)) G.hx G.hb (dcs_get dec_X12_put_0 0 rfl) (by decide) ?_
  refine lv_istore_n (lv' := [(2, .int (24 : Int32)), (0, .ref (ad a0)), (1, .int l1)]) G.hx G.hb (dcs_get dec_X12_put_0 1 rfl) rfl hl (by decide) rfl (fun ls hl => ?_)
  exact B_X12_put_3 a0 l1 (24 : Int32) σ G hm ok_a0 hf  w (lv_sub hl [1, 2, 0] rfl)
end
set_option maxRecDepth 100000 in
set_option maxHeartbeats 4000000 in
theorem C_X12_put {l : Launch} {D : va_G} {ay : Nat → ClassId} {ad : Nat → Nat} (hi : hInj NM ad) (a0 : Nat) (l1 : Int32) (σ : hSt) {σ0 : hSt} (hf : F_X12_put a0 l1 σ = some σ0) (ok_a0 : okr kM NM 12 a0 = true) : hM l D ay kM NM ad yX12_put cX12_put 3 (none) (rmK 0 0) [.ref (ad a0), .int l1] σ (cV D ay kM NM ad σ0) := by
  refine hM_in (by decide) hi (Nat.le_of_ble_eq_true rfl) ?_
  intro p e s m below meth c G hm w ls hl
  exact B_X12_put_0 a0 l1 σ G hm ok_a0 hf w (lv_sub hl [0, 1] rfl)

/-! HillDrumsModel.feed(IIIII)I -/
def DL_X12_feed_0 : List (Nat × Instr × Nat) := [(0, .aload_n 0, 1), (1, .getfield 168, 3), (4, .bipush 20, 2), (6, .iadd, 1), (7, .sipush 2000, 3), (10, .if_icmp .le 5, 3), (13, .iconst (-1), 1), (14, .ireturn, 1), (15, .aload_n 0, 1), (16, .iload_n 1, 1), (17, .invokevirtual 171, 3), (20, .aload_n 0, 1), (21, .iload_n 2, 1), (22, .invokevirtual 171, 3), (25, .aload_n 0, 1), (26, .iload_n 3, 1), (27, .invokevirtual 171, 3), (30, .aload_n 0, 1), (31, .iload 4, 2), (33, .invokevirtual 171, 3), (36, .aload_n 0, 1), (37, .iload 5, 2), (39, .invokevirtual 171, 3), (42, .aload_n 0, 1), (43, .getfield 168, 3), (46, .ireturn, 1)]
set_option maxRecDepth 100000 in
theorem dec_X12_feed_0 : dcs cX12_feed DL_X12_feed_0 = true := by decide +kernel
theorem lb_X12_feed : lkB yX12_feed cX12_feed 6 ((some .int)) 5 := ⟨q_1219, q_14, ⟨by decide, by decide⟩, by decide +kernel⟩
theorem lv_X12_feed : lkV yX12_feed := ⟨q_1217, q_1218⟩
def F_X12_feed (a0 : Nat) (l1 : Int32) (l2 : Int32) (l3 : Int32) (l4 : Int32) (l5 : Int32) (σ : hSt) : Option (Int32 × hSt) :=
if ((σ.1 a0 2) + (20 : Int32)) ≤ (2000 : Int32) then (
(F_X12_put a0 l1 σ).bind fun σ2 =>
(F_X12_put a0 l2 σ2).bind fun σ4 =>
(F_X12_put a0 l3 σ4).bind fun σ6 =>
(F_X12_put a0 l4 σ6).bind fun σ8 =>
(F_X12_put a0 l5 σ8).bind fun σ10 =>
some ((σ10.1 a0 2, σ10))) else (
some (((-1 : Int32), σ)))
section
variable {p : Program} {l : Launch} {e : Env} {s : State} {m : MethodId} {args : Array Value} {below : List Frame} {meth : Method} {c : Code} {D : va_G} {ay : Nat → ClassId} {ad : Nat → Nat}
set_option maxRecDepth 100000 in
set_option maxHeartbeats 4000000 in
theorem B_X12_feed_0 {H : Heap} {locs : List Loc} {ls : Array Slot} {r0 : Int32} {σ0 : hSt} (a0 : Nat) (l1 : Int32) (l2 : Int32) (l3 : Int32) (l4 : Int32) (l5 : Int32) (σ : hSt) (G : Gx p m c cX12_feed 6 s args RX12 D ay NM ad (aN NM ad)) (hm : meth.sig.returnType = (some .int) ∧ meth.locks = false) (ok_a0 : okr kM NM 12 a0 = true) (hf : F_X12_feed a0 l1 l2 l3 l4 l5 σ = some (r0, σ0))  (w : Wd D ay kM NM ad (aN NM ad) s σ H locs) (hl : lv_has ls 6 [(0, .ref (ad a0)), (1, .int l1), (2, .int l2), (3, .int l3), (4, .int l4), (5, .int l5)]) : W p l e (rmK 1 22) s m args below meth c H locs 0 0 (MQ below (cI D ay kM NM ad r0 σ0) args s 0 0 (aN NM ad)) (F0 m 0 ls []) := by
  have k_a0 := okr_in ok_a0
  unfold F_X12_feed at hf
  refine lv_aload_n G.hx G.hb (dcs_get dec_X12_feed_0 0 rfl) rfl (lv_at hl 0 rfl) ?_
  refine r_geti (k := 2) cls12 fi_12_2.1 fi_12_2.2 q_1010 G w k_a0.1 k_a0.2 (dcs_get dec_X12_feed_0 1 rfl) ?_
  refine lv_bipush (v := (20 : Int32)) G.hx G.hb (dcs_get dec_X12_feed_0 2 rfl) (by decide) ?_
  refine lv_iadd G.hx G.hb (dcs_get dec_X12_feed_0 3 rfl) ?_
  refine lv_sipush (v := (2000 : Int32)) G.hx G.hb (dcs_get dec_X12_feed_0 4 rfl) (by decide) ?_
  refine lv_icmp_le (tgt := 15) G.hx G.hb (dcs_get dec_X12_feed_0 5 rfl) (by decide) (fun hc => ?_) (fun hc => ?_)
  · rw [if_pos hc] at hf
    refine lv_aload_n G.hx G.hb (dcs_get dec_X12_feed_0 8 rfl) rfl (lv_at hl 0 rfl) ?_
    refine lv_iload_n G.hx G.hb (dcs_get dec_X12_feed_0 9 rfl) rfl (lv_at hl 1 rfl) ?_
    obtain ⟨σ2, h1, hf⟩ := cB_some hf
    refine a_v (k_V (As := [.int l1]) (rest := []) cls12 lb_X12_put lv_X12_put q_1220 (C_X12_put G.2.2.1 a0 l1 σ h1 ok_a0) ⟨(Nat.le_of_ble_eq_true rfl), (Nat.le_of_ble_eq_true rfl)⟩ G w k_a0.1 k_a0.2 rfl rfl hl.1 (Nat.le_of_ble_eq_true rfl) (dcs_get dec_X12_feed_0 10 rfl) ⟨Nat.le_refl _, Nat.le_refl _⟩) G w (fun H locs w => ?_)
    refine lv_aload_n G.hx G.hb (dcs_get dec_X12_feed_0 11 rfl) rfl (lv_at hl 0 rfl) ?_
    refine lv_iload_n G.hx G.hb (dcs_get dec_X12_feed_0 12 rfl) rfl (lv_at hl 2 rfl) ?_
    obtain ⟨σ4, h3, hf⟩ := cB_some hf
    refine a_v (k_V (As := [.int l2]) (rest := []) cls12 lb_X12_put lv_X12_put q_1220 (C_X12_put G.2.2.1 a0 l2 σ2 h3 ok_a0) ⟨(Nat.le_of_ble_eq_true rfl), (Nat.le_of_ble_eq_true rfl)⟩ G w k_a0.1 k_a0.2 rfl rfl hl.1 (Nat.le_of_ble_eq_true rfl) (dcs_get dec_X12_feed_0 13 rfl) ⟨Nat.le_refl _, Nat.le_refl _⟩) G w (fun H locs w => ?_)
    refine lv_aload_n G.hx G.hb (dcs_get dec_X12_feed_0 14 rfl) rfl (lv_at hl 0 rfl) ?_
    refine lv_iload_n G.hx G.hb (dcs_get dec_X12_feed_0 15 rfl) rfl (lv_at hl 3 rfl) ?_
    obtain ⟨σ6, h5, hf⟩ := cB_some hf
    refine a_v (k_V (As := [.int l3]) (rest := []) cls12 lb_X12_put lv_X12_put q_1220 (C_X12_put G.2.2.1 a0 l3 σ4 h5 ok_a0) ⟨(Nat.le_of_ble_eq_true rfl), (Nat.le_of_ble_eq_true rfl)⟩ G w k_a0.1 k_a0.2 rfl rfl hl.1 (Nat.le_of_ble_eq_true rfl) (dcs_get dec_X12_feed_0 16 rfl) ⟨Nat.le_refl _, Nat.le_refl _⟩) G w (fun H locs w => ?_)
    refine lv_aload_n G.hx G.hb (dcs_get dec_X12_feed_0 17 rfl) rfl (lv_at hl 0 rfl) ?_
    refine lv_iload G.hx G.hb (dcs_get dec_X12_feed_0 18 rfl) (lv_at hl 4 rfl) ?_
    obtain ⟨σ8, h7, hf⟩ := cB_some hf
    refine a_v (k_V (As := [.int l4]) (rest := []) cls12 lb_X12_put lv_X12_put q_1220 (C_X12_put G.2.2.1 a0 l4 σ6 h7 ok_a0) ⟨(Nat.le_of_ble_eq_true rfl), (Nat.le_of_ble_eq_true rfl)⟩ G w k_a0.1 k_a0.2 rfl rfl hl.1 (Nat.le_of_ble_eq_true rfl) (dcs_get dec_X12_feed_0 19 rfl) ⟨Nat.le_refl _, Nat.le_refl _⟩) G w (fun H locs w => ?_)
    refine lv_aload_n G.hx G.hb (dcs_get dec_X12_feed_0 20 rfl) rfl (lv_at hl 0 rfl) ?_
    refine lv_iload G.hx G.hb (dcs_get dec_X12_feed_0 21 rfl) (lv_at hl 5 rfl) ?_
    obtain ⟨σ10, h9, hf⟩ := cB_some hf
    refine a_v (k_V (As := [.int l5]) (rest := []) cls12 lb_X12_put lv_X12_put q_1220 (C_X12_put G.2.2.1 a0 l5 σ8 h9 ok_a0) ⟨(Nat.le_of_ble_eq_true rfl), (Nat.le_of_ble_eq_true rfl)⟩ G w k_a0.1 k_a0.2 rfl rfl hl.1 (Nat.le_of_ble_eq_true rfl) (dcs_get dec_X12_feed_0 22 rfl) ⟨Nat.le_refl _, Nat.le_refl _⟩) G w (fun H locs w => ?_)
    refine lv_aload_n G.hx G.hb (dcs_get dec_X12_feed_0 23 rfl) rfl (lv_at hl 0 rfl) ?_
    refine r_geti (k := 2) cls12 fi_12_2.1 fi_12_2.2 q_1010 G w k_a0.1 k_a0.2 (dcs_get dec_X12_feed_0 24 rfl) ?_
    have e9 := Option.some.inj hf
    exact r_iret G w hm (congrArg Prod.fst e9) (congrArg Prod.snd e9) (dcs_get dec_X12_feed_0 25 rfl)
  · rw [if_neg hc] at hf
    refine lv_iconst (v := (-1 : Int32)) G.hx G.hb (dcs_get dec_X12_feed_0 6 rfl) (by decide) ?_
    have e9 := Option.some.inj hf
    exact r_iret G w hm (congrArg Prod.fst e9) (congrArg Prod.snd e9) (dcs_get dec_X12_feed_0 7 rfl)
end
set_option maxRecDepth 100000 in
set_option maxHeartbeats 4000000 in
theorem C_X12_feed {l : Launch} {D : va_G} {ay : Nat → ClassId} {ad : Nat → Nat} (hi : hInj NM ad) (a0 : Nat) (l1 : Int32) (l2 : Int32) (l3 : Int32) (l4 : Int32) (l5 : Int32) (σ : hSt) {r0 : Int32} {σ0 : hSt} (hf : F_X12_feed a0 l1 l2 l3 l4 l5 σ = some (r0, σ0)) (ok_a0 : okr kM NM 12 a0 = true) : hM l D ay kM NM ad yX12_feed cX12_feed 6 ((some .int)) (rmK 1 22) [.ref (ad a0), .int l1, .int l2, .int l3, .int l4, .int l5] σ (cI D ay kM NM ad r0 σ0) := by
  refine hM_in (by decide) hi (Nat.le_of_ble_eq_true rfl) ?_
  intro p e s m below meth c G hm w ls hl
  exact B_X12_feed_0 a0 l1 l2 l3 l4 l5 σ G hm ok_a0 hf w (lv_sub hl [0, 1, 2, 3, 4, 5] rfl)

/-! HillDrumsModel.back(I)I -/
def DL_X12_back_0 : List (Nat × Instr × Nat) := [(0, .iload_n 1, 1), (1, .ifCond .lt 11, 3), (4, .iload_n 1, 1), (5, .aload_n 0, 1), (6, .getfield 168, 3), (9, .if_icmp .le 5, 3), (12, .iconst (-1), 1), (13, .ireturn, 1), (14, .aload_n 0, 1), (15, .dup, 1), (16, .getfield 168, 3), (19, .iload_n 1, 1), (20, .isub, 1), (21, .putfield 168, 3), (24, .aload_n 0, 1), (25, .getfield 168, 3), (28, .ireturn, 1)]
set_option maxRecDepth 100000 in
theorem dec_X12_back_0 : dcs cX12_back DL_X12_back_0 = true := by decide +kernel
theorem lb_X12_back : lkB yX12_back cX12_back 2 ((some .int)) 1 := ⟨q_1227, q_14, ⟨by decide, by decide⟩, by decide +kernel⟩
theorem lv_X12_back : lkV yX12_back := ⟨q_1225, q_1226⟩
def F_X12_back_12  (σ : hSt) : Option (Int32 × hSt) :=
some (((-1 : Int32), σ))
def F_X12_back (a0 : Nat) (l1 : Int32) (σ : hSt) : Option (Int32 × hSt) :=
if l1 < 0 then (
F_X12_back_12  σ) else (
if l1 ≤ (σ.1 a0 2) then (
cL (uI σ a0 2 ((σ.1 a0 2) - l1)) fun σ1 =>
some ((σ1.1 a0 2, σ1))) else (
F_X12_back_12  σ))
section
variable {p : Program} {l : Launch} {e : Env} {s : State} {m : MethodId} {args : Array Value} {below : List Frame} {meth : Method} {c : Code} {D : va_G} {ay : Nat → ClassId} {ad : Nat → Nat}
set_option maxRecDepth 100000 in
set_option maxHeartbeats 4000000 in
theorem B_X12_back_12 {H : Heap} {locs : List Loc} {ls : Array Slot} {r0 : Int32} {σ0 : hSt}  (σ : hSt) (G : Gx p m c cX12_back 2 s args RX12 D ay NM ad (aN NM ad)) (hm : meth.sig.returnType = (some .int) ∧ meth.locks = false)  (hf : F_X12_back_12  σ = some (r0, σ0))  (w : Wd D ay kM NM ad (aN NM ad) s σ H locs) (hl : lv_has ls 2 []) : W p l e (rmK 0 0) s m args below meth c H locs 0 0 (MQ below (cI D ay kM NM ad r0 σ0) args s 0 0 (aN NM ad)) (F0 m 12 ls []) := by
  unfold F_X12_back_12 at hf
  refine lv_iconst (v := (-1 : Int32)) G.hx G.hb (dcs_get dec_X12_back_0 6 rfl) (by decide) ?_
  have e9 := Option.some.inj hf
  exact r_iret G w hm (congrArg Prod.fst e9) (congrArg Prod.snd e9) (dcs_get dec_X12_back_0 7 rfl)
set_option maxRecDepth 100000 in
set_option maxHeartbeats 4000000 in
theorem B_X12_back_0 {H : Heap} {locs : List Loc} {ls : Array Slot} {r0 : Int32} {σ0 : hSt} (a0 : Nat) (l1 : Int32) (σ : hSt) (G : Gx p m c cX12_back 2 s args RX12 D ay NM ad (aN NM ad)) (hm : meth.sig.returnType = (some .int) ∧ meth.locks = false) (ok_a0 : okr kM NM 12 a0 = true) (hf : F_X12_back a0 l1 σ = some (r0, σ0))  (w : Wd D ay kM NM ad (aN NM ad) s σ H locs) (hl : lv_has ls 2 [(0, .ref (ad a0)), (1, .int l1)]) : W p l e (rmK 0 0) s m args below meth c H locs 0 0 (MQ below (cI D ay kM NM ad r0 σ0) args s 0 0 (aN NM ad)) (F0 m 0 ls []) := by
  have k_a0 := okr_in ok_a0
  unfold F_X12_back at hf
  refine lv_iload_n G.hx G.hb (dcs_get dec_X12_back_0 0 rfl) rfl (lv_at hl 1 rfl) ?_
  refine lv_if_lt (tgt := 12) G.hx G.hb (dcs_get dec_X12_back_0 1 rfl) (by decide) (fun hc => ?_) (fun hc => ?_)
  · rw [if_pos hc] at hf
    exact B_X12_back_12  σ G hm  hf  w (lv_sub hl [] rfl)
  · rw [if_neg hc] at hf
    refine lv_iload_n G.hx G.hb (dcs_get dec_X12_back_0 2 rfl) rfl (lv_at hl 1 rfl) ?_
    refine lv_aload_n G.hx G.hb (dcs_get dec_X12_back_0 3 rfl) rfl (lv_at hl 0 rfl) ?_
    refine r_geti (k := 2) cls12 fi_12_2.1 fi_12_2.2 q_1010 G w k_a0.1 k_a0.2 (dcs_get dec_X12_back_0 4 rfl) ?_
    refine lv_icmp_le (tgt := 14) G.hx G.hb (dcs_get dec_X12_back_0 5 rfl) (by decide) (fun hc => ?_) (fun hc => ?_)
    · rw [if_pos hc] at hf
      refine lv_aload_n G.hx G.hb (dcs_get dec_X12_back_0 8 rfl) rfl (lv_at hl 0 rfl) ?_
      refine lv_dup G.hx G.hb (dcs_get dec_X12_back_0 9 rfl) rfl ?_
      refine r_geti (k := 2) cls12 fi_12_2.1 fi_12_2.2 q_1010 G w k_a0.1 k_a0.2 (dcs_get dec_X12_back_0 10 rfl) ?_
      refine lv_iload_n G.hx G.hb (dcs_get dec_X12_back_0 11 rfl) rfl (lv_at hl 1 rfl) ?_
      refine lv_isub G.hx G.hb (dcs_get dec_X12_back_0 12 rfl) ?_
      obtain ⟨σ1, e_σ1, hf⟩ := cL_some hf
      refine r_puti (k := 2) cls12 ct12 fi_12_2.1 fi_12_2.2 fp_12_2.1 fp_12_2.2 q_1010 rfl rfl G w k_a0.1 k_a0.2 (dcs_get dec_X12_back_0 13 rfl) (fun H locs w => ?_)
      have w := Wd.nm e_σ1 w
      refine lv_aload_n G.hx G.hb (dcs_get dec_X12_back_0 14 rfl) rfl (lv_at hl 0 rfl) ?_
      refine r_geti (k := 2) cls12 fi_12_2.1 fi_12_2.2 q_1010 G w k_a0.1 k_a0.2 (dcs_get dec_X12_back_0 15 rfl) ?_
      have e9 := Option.some.inj hf
      exact r_iret G w hm (congrArg Prod.fst e9) (congrArg Prod.snd e9) (dcs_get dec_X12_back_0 16 rfl)
    · rw [if_neg hc] at hf
      exact B_X12_back_12  σ G hm  hf  w (lv_sub hl [] rfl)
end
set_option maxRecDepth 100000 in
set_option maxHeartbeats 4000000 in
theorem C_X12_back {l : Launch} {D : va_G} {ay : Nat → ClassId} {ad : Nat → Nat} (hi : hInj NM ad) (a0 : Nat) (l1 : Int32) (σ : hSt) {r0 : Int32} {σ0 : hSt} (hf : F_X12_back a0 l1 σ = some (r0, σ0)) (ok_a0 : okr kM NM 12 a0 = true) : hM l D ay kM NM ad yX12_back cX12_back 2 ((some .int)) (rmK 0 0) [.ref (ad a0), .int l1] σ (cI D ay kM NM ad r0 σ0) := by
  refine hM_in (by decide) hi (Nat.le_of_ble_eq_true rfl) ?_
  intro p e s m below meth c G hm w ls hl
  exact B_X12_back_0 a0 l1 σ G hm ok_a0 hf w (lv_sub hl [0, 1] rfl)

/-! HillDrumsModel.byteAt(I)I -/
def DL_X12_byteAt_0 : List (Nat × Instr × Nat) := [(0, .iload_n 1, 1), (1, .aload_n 0, 1), (2, .getfield 175, 3), (5, .if_icmp .ge 16, 3), (8, .aload_n 0, 1), (9, .getfield 17, 3), (12, .iload_n 1, 1), (13, .baload, 1), (14, .sipush 255, 3), (17, .iand, 1), (18, .goto 4, 3), (21, .iconst 0, 1), (22, .ireturn, 1)]
set_option maxRecDepth 100000 in
theorem dec_X12_byteAt_0 : dcs cX12_byteAt DL_X12_byteAt_0 = true := by decide +kernel
theorem lb_X12_byteAt : lkB yX12_byteAt cX12_byteAt 2 ((some .int)) 1 := ⟨q_1239, q_14, ⟨by decide, by decide⟩, by decide +kernel⟩
theorem lv_X12_byteAt : lkV yX12_byteAt := ⟨q_1238, qs_69⟩
def F_X12_byteAt_22 (s0 : Int32) (σ : hSt) : Option (Int32) :=
some (s0)
def F_X12_byteAt (a0 : Nat) (l1 : Int32) (σ : hSt) : Option (Int32) :=
if (σ.1 a0 4) ≤ l1 then (
F_X12_byteAt_22 (0 : Int32) σ) else (
cR (σ.2.2 a0 3) (okr kM NM 100) fun z1 =>
cG (inb l1 (kM z1).2) <|
F_X12_byteAt_22 ((σ.1 z1 l1.toNatClampNeg) &&& (255 : Int32)) σ)
section
variable {p : Program} {l : Launch} {e : Env} {s : State} {m : MethodId} {args : Array Value} {below : List Frame} {meth : Method} {c : Code} {D : va_G} {ay : Nat → ClassId} {ad : Nat → Nat}
set_option maxRecDepth 100000 in
set_option maxHeartbeats 4000000 in
theorem B_X12_byteAt_22 {H : Heap} {locs : List Loc} {ls : Array Slot} {r0 : Int32} (s0 : Int32) (σ : hSt) (G : Gx p m c cX12_byteAt 2 s args RX12 D ay NM ad (aN NM ad)) (hm : meth.sig.returnType = (some .int) ∧ meth.locks = false)  (hf : F_X12_byteAt_22 s0 σ = some r0)  (w : Wd D ay kM NM ad (aN NM ad) s σ H locs) (hl : lv_has ls 2 []) : W p l e (rmK 0 0) s m args below meth c H locs 0 0 (MQ below (cI D ay kM NM ad r0 σ) args s 0 0 (aN NM ad)) (F0 m 22 ls [.int s0]) := by
  unfold F_X12_byteAt_22 at hf
  have e9 := Option.some.inj hf
  exact r_iret G w hm e9 rfl (dcs_get dec_X12_byteAt_0 12 rfl)
set_option maxRecDepth 100000 in
set_option maxHeartbeats 4000000 in
theorem B_X12_byteAt_0 {H : Heap} {locs : List Loc} {ls : Array Slot} {r0 : Int32} (a0 : Nat) (l1 : Int32) (σ : hSt) (G : Gx p m c cX12_byteAt 2 s args RX12 D ay NM ad (aN NM ad)) (hm : meth.sig.returnType = (some .int) ∧ meth.locks = false) (ok_a0 : okr kM NM 12 a0 = true) (hf : F_X12_byteAt a0 l1 σ = some r0)  (w : Wd D ay kM NM ad (aN NM ad) s σ H locs) (hl : lv_has ls 2 [(0, .ref (ad a0)), (1, .int l1)]) : W p l e (rmK 0 0) s m args below meth c H locs 0 0 (MQ below (cI D ay kM NM ad r0 σ) args s 0 0 (aN NM ad)) (F0 m 0 ls []) := by
  have k_a0 := okr_in ok_a0
  unfold F_X12_byteAt at hf
  refine lv_iload_n G.hx G.hb (dcs_get dec_X12_byteAt_0 0 rfl) rfl (lv_at hl 1 rfl) ?_
  refine lv_aload_n G.hx G.hb (dcs_get dec_X12_byteAt_0 1 rfl) rfl (lv_at hl 0 rfl) ?_
  refine r_geti (k := 4) cls12 fi_12_4.1 fi_12_4.2 q_1012 G w k_a0.1 k_a0.2 (dcs_get dec_X12_byteAt_0 2 rfl) ?_
  refine lv_icmp_ge (tgt := 21) G.hx G.hb (dcs_get dec_X12_byteAt_0 3 rfl) (by decide) (fun hc => ?_) (fun hc => ?_)
  · rw [if_pos hc] at hf
    refine lv_iconst (v := (0 : Int32)) G.hx G.hb (dcs_get dec_X12_byteAt_0 11 rfl) (by decide) ?_
    exact B_X12_byteAt_22 (0 : Int32) σ G hm  hf  w (lv_sub hl [] rfl)
  · rw [if_neg hc] at hf
    refine lv_aload_n G.hx G.hb (dcs_get dec_X12_byteAt_0 4 rfl) rfl (lv_at hl 0 rfl) ?_
    obtain ⟨z1, e_z1, ok_z1, hf⟩ := cR_some hf
    have k_z1 := okr_in ok_z1
    refine r_getr (k := 3) cls12 fi_12_3.1 fi_12_3.2 q_1011 G w k_a0.1 k_a0.2 e_z1 (dcs_get dec_X12_byteAt_0 5 rfl) ?_
    refine lv_iload_n G.hx G.hb (dcs_get dec_X12_byteAt_0 6 rfl) rfl (lv_at hl 1 rfl) ?_
    obtain ⟨h2, hf⟩ := cG_some hf
    refine r_bald G w k_z1.1 k_z1.2 h2 (dcs_get dec_X12_byteAt_0 7 rfl) ?_
    refine lv_sipush (v := (255 : Int32)) G.hx G.hb (dcs_get dec_X12_byteAt_0 8 rfl) (by decide) ?_
    refine lv_iand G.hx G.hb (dcs_get dec_X12_byteAt_0 9 rfl) ?_
    refine lv_goto (tgt := 22) G.hx G.hb (dcs_get dec_X12_byteAt_0 10 rfl) (by decide) ?_
    exact B_X12_byteAt_22 ((σ.1 z1 l1.toNatClampNeg) &&& (255 : Int32)) σ G hm  hf  w (lv_sub hl [] rfl)
end
set_option maxRecDepth 100000 in
set_option maxHeartbeats 4000000 in
theorem C_X12_byteAt {l : Launch} {D : va_G} {ay : Nat → ClassId} {ad : Nat → Nat} (hi : hInj NM ad) (a0 : Nat) (l1 : Int32) (σ : hSt) {r0 : Int32} (hf : F_X12_byteAt a0 l1 σ = some r0) (ok_a0 : okr kM NM 12 a0 = true) : hM l D ay kM NM ad yX12_byteAt cX12_byteAt 2 ((some .int)) (rmK 0 0) [.ref (ad a0), .int l1] σ (cI D ay kM NM ad r0 σ) := by
  refine hM_in (by decide) hi (Nat.le_of_ble_eq_true rfl) ?_
  intro p e s m below meth c G hm w ls hl
  exact B_X12_byteAt_0 a0 l1 σ G hm ok_a0 hf w (lv_sub hl [0, 1] rfl)

/-! HillDrumsModel.isDigit(I)Z -/
def DL_X12_isDigit_0 : List (Nat × Instr × Nat) := [(0, .iload_n 0, 1), (1, .bipush 48, 2), (3, .if_icmp .lt 13, 3), (6, .iload_n 0, 1), (7, .bipush 57, 2), (9, .if_icmp .gt 7, 3), (12, .iconst 1, 1), (13, .goto 4, 3), (16, .iconst 0, 1), (17, .ireturn, 1)]
set_option maxRecDepth 100000 in
theorem dec_X12_isDigit_0 : dcs cX12_isDigit DL_X12_isDigit_0 = true := by decide +kernel
theorem lb_X12_isDigit : lkB yX12_isDigit cX12_isDigit 1 ((some .boolean)) 1 := ⟨q_1249, q_14, ⟨by decide, by decide⟩, by decide +kernel⟩
def F_X12_isDigit_17 (s0 : Int32) (σ : hSt) : Option (Int32) :=
cG (isB s0) <|
some (s0)
def F_X12_isDigit_16  (σ : hSt) : Option (Int32) :=
F_X12_isDigit_17 (0 : Int32) σ
def F_X12_isDigit (l0 : Int32) (σ : hSt) : Option (Int32) :=
if l0 < (48 : Int32) then (
F_X12_isDigit_16  σ) else (
if (57 : Int32) < l0 then (
F_X12_isDigit_16  σ) else (
F_X12_isDigit_17 (1 : Int32) σ))
section
variable {p : Program} {l : Launch} {e : Env} {s : State} {m : MethodId} {args : Array Value} {below : List Frame} {meth : Method} {c : Code} {D : va_G} {ay : Nat → ClassId} {ad : Nat → Nat}
set_option maxRecDepth 100000 in
set_option maxHeartbeats 4000000 in
theorem B_X12_isDigit_17 {H : Heap} {locs : List Loc} {ls : Array Slot} {r0 : Int32} (s0 : Int32) (σ : hSt) (G : Gx p m c cX12_isDigit 1 s args RX12 D ay NM ad (aN NM ad)) (hm : meth.sig.returnType = (some .boolean) ∧ meth.locks = false)  (hf : F_X12_isDigit_17 s0 σ = some r0)  (w : Wd D ay kM NM ad (aN NM ad) s σ H locs) (hl : lv_has ls 1 []) : W p l e (rmK 0 0) s m args below meth c H locs 0 0 (MQ below (cI D ay kM NM ad r0 σ) args s 0 0 (aN NM ad)) (F0 m 17 ls [.int s0]) := by
  unfold F_X12_isDigit_17 at hf
  obtain ⟨h1, hf⟩ := cG_some hf
  have e9 := Option.some.inj hf
  exact r_zret (isB_nar h1) G w hm e9 rfl (dcs_get dec_X12_isDigit_0 9 rfl)
set_option maxRecDepth 100000 in
set_option maxHeartbeats 4000000 in
theorem B_X12_isDigit_16 {H : Heap} {locs : List Loc} {ls : Array Slot} {r0 : Int32}  (σ : hSt) (G : Gx p m c cX12_isDigit 1 s args RX12 D ay NM ad (aN NM ad)) (hm : meth.sig.returnType = (some .boolean) ∧ meth.locks = false)  (hf : F_X12_isDigit_16  σ = some r0)  (w : Wd D ay kM NM ad (aN NM ad) s σ H locs) (hl : lv_has ls 1 []) : W p l e (rmK 0 0) s m args below meth c H locs 0 0 (MQ below (cI D ay kM NM ad r0 σ) args s 0 0 (aN NM ad)) (F0 m 16 ls []) := by
  unfold F_X12_isDigit_16 at hf
  refine lv_iconst (v := (0 : Int32)) G.hx G.hb (dcs_get dec_X12_isDigit_0 8 rfl) (by decide) ?_
  exact B_X12_isDigit_17 (0 : Int32) σ G hm  hf  w (lv_sub hl [] rfl)
set_option maxRecDepth 100000 in
set_option maxHeartbeats 4000000 in
theorem B_X12_isDigit_0 {H : Heap} {locs : List Loc} {ls : Array Slot} {r0 : Int32} (l0 : Int32) (σ : hSt) (G : Gx p m c cX12_isDigit 1 s args RX12 D ay NM ad (aN NM ad)) (hm : meth.sig.returnType = (some .boolean) ∧ meth.locks = false)  (hf : F_X12_isDigit l0 σ = some r0)  (w : Wd D ay kM NM ad (aN NM ad) s σ H locs) (hl : lv_has ls 1 [(0, .int l0)]) : W p l e (rmK 0 0) s m args below meth c H locs 0 0 (MQ below (cI D ay kM NM ad r0 σ) args s 0 0 (aN NM ad)) (F0 m 0 ls []) := by
  unfold F_X12_isDigit at hf
  refine lv_iload_n G.hx G.hb (dcs_get dec_X12_isDigit_0 0 rfl) rfl (lv_at hl 0 rfl) ?_
  refine lv_bipush (v := (48 : Int32)) G.hx G.hb (dcs_get dec_X12_isDigit_0 1 rfl) (by decide) ?_
  refine lv_icmp_lt (tgt := 16) G.hx G.hb (dcs_get dec_X12_isDigit_0 2 rfl) (by decide) (fun hc => ?_) (fun hc => ?_)
  · rw [if_pos hc] at hf
    exact B_X12_isDigit_16  σ G hm  hf  w (lv_sub hl [] rfl)
  · rw [if_neg hc] at hf
    refine lv_iload_n G.hx G.hb (dcs_get dec_X12_isDigit_0 3 rfl) rfl (lv_at hl 0 rfl) ?_
    refine lv_bipush (v := (57 : Int32)) G.hx G.hb (dcs_get dec_X12_isDigit_0 4 rfl) (by decide) ?_
    refine lv_icmp_gt (tgt := 16) G.hx G.hb (dcs_get dec_X12_isDigit_0 5 rfl) (by decide) (fun hc => ?_) (fun hc => ?_)
    · rw [if_pos hc] at hf
      exact B_X12_isDigit_16  σ G hm  hf  w (lv_sub hl [] rfl)
    · rw [if_neg hc] at hf
      refine lv_iconst (v := (1 : Int32)) G.hx G.hb (dcs_get dec_X12_isDigit_0 6 rfl) (by decide) ?_
      refine lv_goto (tgt := 17) G.hx G.hb (dcs_get dec_X12_isDigit_0 7 rfl) (by decide) ?_
      exact B_X12_isDigit_17 (1 : Int32) σ G hm  hf  w (lv_sub hl [] rfl)
end
set_option maxRecDepth 100000 in
set_option maxHeartbeats 4000000 in
theorem C_X12_isDigit {l : Launch} {D : va_G} {ay : Nat → ClassId} {ad : Nat → Nat} (hi : hInj NM ad) (l0 : Int32) (σ : hSt) {r0 : Int32} (hf : F_X12_isDigit l0 σ = some r0)  : hM l D ay kM NM ad yX12_isDigit cX12_isDigit 1 ((some .boolean)) (rmK 0 0) [.int l0] σ (cI D ay kM NM ad r0 σ) := by
  refine hM_in (by decide) hi (Nat.le_of_ble_eq_true rfl) ?_
  intro p e s m below meth c G hm w ls hl
  exact B_X12_isDigit_0 l0 σ G hm  hf w (lv_sub hl [0] rfl)

/-! HillDrumsModel.isLetter(I)Z -/
def DL_X12_isLetter_0 : List (Nat × Instr × Nat) := [(0, .iload_n 0, 1), (1, .bipush 97, 2), (3, .if_icmp .lt 13, 3), (6, .iload_n 0, 1), (7, .bipush 122, 2), (9, .if_icmp .gt 7, 3), (12, .iconst 1, 1), (13, .goto 4, 3), (16, .iconst 0, 1), (17, .ireturn, 1)]
set_option maxRecDepth 100000 in
theorem dec_X12_isLetter_0 : dcs cX12_isLetter DL_X12_isLetter_0 = true := by decide +kernel
theorem lb_X12_isLetter : lkB yX12_isLetter cX12_isLetter 1 ((some .boolean)) 1 := ⟨q_1246, q_14, ⟨by decide, by decide⟩, by decide +kernel⟩
def F_X12_isLetter_17 (s0 : Int32) (σ : hSt) : Option (Int32) :=
cG (isB s0) <|
some (s0)
def F_X12_isLetter_16  (σ : hSt) : Option (Int32) :=
F_X12_isLetter_17 (0 : Int32) σ
def F_X12_isLetter (l0 : Int32) (σ : hSt) : Option (Int32) :=
if l0 < (97 : Int32) then (
F_X12_isLetter_16  σ) else (
if (122 : Int32) < l0 then (
F_X12_isLetter_16  σ) else (
F_X12_isLetter_17 (1 : Int32) σ))
section
variable {p : Program} {l : Launch} {e : Env} {s : State} {m : MethodId} {args : Array Value} {below : List Frame} {meth : Method} {c : Code} {D : va_G} {ay : Nat → ClassId} {ad : Nat → Nat}
set_option maxRecDepth 100000 in
set_option maxHeartbeats 4000000 in
theorem B_X12_isLetter_17 {H : Heap} {locs : List Loc} {ls : Array Slot} {r0 : Int32} (s0 : Int32) (σ : hSt) (G : Gx p m c cX12_isLetter 1 s args RX12 D ay NM ad (aN NM ad)) (hm : meth.sig.returnType = (some .boolean) ∧ meth.locks = false)  (hf : F_X12_isLetter_17 s0 σ = some r0)  (w : Wd D ay kM NM ad (aN NM ad) s σ H locs) (hl : lv_has ls 1 []) : W p l e (rmK 0 0) s m args below meth c H locs 0 0 (MQ below (cI D ay kM NM ad r0 σ) args s 0 0 (aN NM ad)) (F0 m 17 ls [.int s0]) := by
  unfold F_X12_isLetter_17 at hf
  obtain ⟨h1, hf⟩ := cG_some hf
  have e9 := Option.some.inj hf
  exact r_zret (isB_nar h1) G w hm e9 rfl (dcs_get dec_X12_isLetter_0 9 rfl)
set_option maxRecDepth 100000 in
set_option maxHeartbeats 4000000 in
theorem B_X12_isLetter_16 {H : Heap} {locs : List Loc} {ls : Array Slot} {r0 : Int32}  (σ : hSt) (G : Gx p m c cX12_isLetter 1 s args RX12 D ay NM ad (aN NM ad)) (hm : meth.sig.returnType = (some .boolean) ∧ meth.locks = false)  (hf : F_X12_isLetter_16  σ = some r0)  (w : Wd D ay kM NM ad (aN NM ad) s σ H locs) (hl : lv_has ls 1 []) : W p l e (rmK 0 0) s m args below meth c H locs 0 0 (MQ below (cI D ay kM NM ad r0 σ) args s 0 0 (aN NM ad)) (F0 m 16 ls []) := by
  unfold F_X12_isLetter_16 at hf
  refine lv_iconst (v := (0 : Int32)) G.hx G.hb (dcs_get dec_X12_isLetter_0 8 rfl) (by decide) ?_
  exact B_X12_isLetter_17 (0 : Int32) σ G hm  hf  w (lv_sub hl [] rfl)
set_option maxRecDepth 100000 in
set_option maxHeartbeats 4000000 in
theorem B_X12_isLetter_0 {H : Heap} {locs : List Loc} {ls : Array Slot} {r0 : Int32} (l0 : Int32) (σ : hSt) (G : Gx p m c cX12_isLetter 1 s args RX12 D ay NM ad (aN NM ad)) (hm : meth.sig.returnType = (some .boolean) ∧ meth.locks = false)  (hf : F_X12_isLetter l0 σ = some r0)  (w : Wd D ay kM NM ad (aN NM ad) s σ H locs) (hl : lv_has ls 1 [(0, .int l0)]) : W p l e (rmK 0 0) s m args below meth c H locs 0 0 (MQ below (cI D ay kM NM ad r0 σ) args s 0 0 (aN NM ad)) (F0 m 0 ls []) := by
  unfold F_X12_isLetter at hf
  refine lv_iload_n G.hx G.hb (dcs_get dec_X12_isLetter_0 0 rfl) rfl (lv_at hl 0 rfl) ?_
  refine lv_bipush (v := (97 : Int32)) G.hx G.hb (dcs_get dec_X12_isLetter_0 1 rfl) (by decide) ?_
  refine lv_icmp_lt (tgt := 16) G.hx G.hb (dcs_get dec_X12_isLetter_0 2 rfl) (by decide) (fun hc => ?_) (fun hc => ?_)
  · rw [if_pos hc] at hf
    exact B_X12_isLetter_16  σ G hm  hf  w (lv_sub hl [] rfl)
  · rw [if_neg hc] at hf
    refine lv_iload_n G.hx G.hb (dcs_get dec_X12_isLetter_0 3 rfl) rfl (lv_at hl 0 rfl) ?_
    refine lv_bipush (v := (122 : Int32)) G.hx G.hb (dcs_get dec_X12_isLetter_0 4 rfl) (by decide) ?_
    refine lv_icmp_gt (tgt := 16) G.hx G.hb (dcs_get dec_X12_isLetter_0 5 rfl) (by decide) (fun hc => ?_) (fun hc => ?_)
    · rw [if_pos hc] at hf
      exact B_X12_isLetter_16  σ G hm  hf  w (lv_sub hl [] rfl)
    · rw [if_neg hc] at hf
      refine lv_iconst (v := (1 : Int32)) G.hx G.hb (dcs_get dec_X12_isLetter_0 6 rfl) (by decide) ?_
      refine lv_goto (tgt := 17) G.hx G.hb (dcs_get dec_X12_isLetter_0 7 rfl) (by decide) ?_
      exact B_X12_isLetter_17 (1 : Int32) σ G hm  hf  w (lv_sub hl [] rfl)
end
set_option maxRecDepth 100000 in
set_option maxHeartbeats 4000000 in
theorem C_X12_isLetter {l : Launch} {D : va_G} {ay : Nat → ClassId} {ad : Nat → Nat} (hi : hInj NM ad) (l0 : Int32) (σ : hSt) {r0 : Int32} (hf : F_X12_isLetter l0 σ = some r0)  : hM l D ay kM NM ad yX12_isLetter cX12_isLetter 1 ((some .boolean)) (rmK 0 0) [.int l0] σ (cI D ay kM NM ad r0 σ) := by
  refine hM_in (by decide) hi (Nat.le_of_ble_eq_true rfl) ?_
  intro p e s m below meth c G hm w ls hl
  exact B_X12_isLetter_0 l0 σ G hm  hf w (lv_sub hl [0] rfl)

/-! HillDrumsModel.appends(JI)J -/
def DL_X12_appends_0 : List (Nat × Instr × Nat) := [(0, .iload_n 2, 1), (1, .ifCond .ne 7, 3), (4, .lload_n 0, 1), (5, .goto 16, 3), (8, .ldc2_w 178, 3), (11, .lload_n 0, 1), (12, .lmul, 1), (13, .iload_n 2, 1), (14, .bipush 97, 2), (16, .isub, 1), (17, .iconst 1, 1), (18, .iadd, 1), (19, .i2l, 1), (20, .ladd, 1), (21, .lreturn, 1)]
set_option maxRecDepth 100000 in
theorem dec_X12_appends_0 : dcs cX12_appends DL_X12_appends_0 = true := by decide +kernel
theorem lb_X12_appends : lkB yX12_appends cX12_appends 3 ((some .long)) 2 := ⟨q_995, q_14, ⟨by decide, by decide⟩, by decide +kernel⟩
def F_X12_appends_21 (s0 : Int64) (σ : hSt) : Option (Int64) :=
some (s0)
def F_X12_appends (l0 : Int64) (l2 : Int32) (σ : hSt) : Option (Int64) :=
if l2 = 0 then (
F_X12_appends_21 l0 σ) else (
F_X12_appends_21 (((27 : Int64) * l0) + (((l2 - (97 : Int32)) + (1 : Int32)).toInt64)) σ)
section
variable {p : Program} {l : Launch} {e : Env} {s : State} {m : MethodId} {args : Array Value} {below : List Frame} {meth : Method} {c : Code} {D : va_G} {ay : Nat → ClassId} {ad : Nat → Nat}
set_option maxRecDepth 100000 in
set_option maxHeartbeats 4000000 in
theorem B_X12_appends_21 {H : Heap} {locs : List Loc} {ls : Array Slot} {r0 : Int64} (s0 : Int64) (σ : hSt) (G : Gx p m c cX12_appends 3 s args RX12 D ay NM ad (aN NM ad)) (hm : meth.sig.returnType = (some .long) ∧ meth.locks = false)  (hf : F_X12_appends_21 s0 σ = some r0)  (w : Wd D ay kM NM ad (aN NM ad) s σ H locs) (hl : lv_has ls 3 []) : W p l e (rmK 0 0) s m args below meth c H locs 0 0 (MQ below (cJ D ay kM NM ad r0 σ) args s 0 0 (aN NM ad)) (F0 m 21 ls [.long s0]) := by
  unfold F_X12_appends_21 at hf
  have e9 := Option.some.inj hf
  exact r_lret G w hm e9 rfl (dcs_get dec_X12_appends_0 14 rfl)
set_option maxRecDepth 100000 in
set_option maxHeartbeats 4000000 in
theorem B_X12_appends_0 {H : Heap} {locs : List Loc} {ls : Array Slot} {r0 : Int64} (l0 : Int64) (l2 : Int32) (σ : hSt) (G : Gx p m c cX12_appends 3 s args RX12 D ay NM ad (aN NM ad)) (hm : meth.sig.returnType = (some .long) ∧ meth.locks = false)  (hf : F_X12_appends l0 l2 σ = some r0)  (w : Wd D ay kM NM ad (aN NM ad) s σ H locs) (hl : lv_has ls 3 [(0, .long l0), (2, .int l2)]) : W p l e (rmK 0 0) s m args below meth c H locs 0 0 (MQ below (cJ D ay kM NM ad r0 σ) args s 0 0 (aN NM ad)) (F0 m 0 ls []) := by
  unfold F_X12_appends at hf
  refine lv_iload_n G.hx G.hb (dcs_get dec_X12_appends_0 0 rfl) rfl (lv_at hl 1 rfl) ?_
  refine lv_if_ne (tgt := 8) G.hx G.hb (dcs_get dec_X12_appends_0 1 rfl) (by decide) (fun hc => ?_) (fun hc => ?_)
  · rw [if_neg hc] at hf
    refine lv_ldc2 G.hx G.hb G.hown (G.hts _ q_996) (dcs_get dec_X12_appends_0 4 rfl) ?_
    refine lv_lload_n G.hx G.hb (dcs_get dec_X12_appends_0 5 rfl) rfl (lv_at hl 0 rfl) ?_
    refine lv_lmul G.hx G.hb (dcs_get dec_X12_appends_0 6 rfl) ?_
    refine lv_iload_n G.hx G.hb (dcs_get dec_X12_appends_0 7 rfl) rfl (lv_at hl 1 rfl) ?_
    refine lv_bipush (v := (97 : Int32)) G.hx G.hb (dcs_get dec_X12_appends_0 8 rfl) (by decide) ?_
    refine lv_isub G.hx G.hb (dcs_get dec_X12_appends_0 9 rfl) ?_
    refine lv_iconst (v := (1 : Int32)) G.hx G.hb (dcs_get dec_X12_appends_0 10 rfl) (by decide) ?_
    refine lv_iadd G.hx G.hb (dcs_get dec_X12_appends_0 11 rfl) ?_
    refine lv_i2l G.hx G.hb (dcs_get dec_X12_appends_0 12 rfl) rfl ?_
    refine lv_ladd G.hx G.hb (dcs_get dec_X12_appends_0 13 rfl) ?_
    exact B_X12_appends_21 (((27 : Int64) * l0) + (((l2 - (97 : Int32)) + (1 : Int32)).toInt64)) σ G hm  hf  w (lv_sub hl [] rfl)
  · rw [if_pos hc] at hf
    refine lv_lload_n G.hx G.hb (dcs_get dec_X12_appends_0 2 rfl) rfl (lv_at hl 0 rfl) ?_
    refine lv_goto (tgt := 21) G.hx G.hb (dcs_get dec_X12_appends_0 3 rfl) (by decide) ?_
    exact B_X12_appends_21 l0 σ G hm  hf  w (lv_sub hl [] rfl)
end
set_option maxRecDepth 100000 in
set_option maxHeartbeats 4000000 in
theorem C_X12_appends {l : Launch} {D : va_G} {ay : Nat → ClassId} {ad : Nat → Nat} (hi : hInj NM ad) (l0 : Int64) (l2 : Int32) (σ : hSt) {r0 : Int64} (hf : F_X12_appends l0 l2 σ = some r0)  : hM l D ay kM NM ad yX12_appends cX12_appends 3 ((some .long)) (rmK 0 0) [.long l0, .int l2] σ (cJ D ay kM NM ad r0 σ) := by
  refine hM_in (by decide) hi (Nat.le_of_ble_eq_true rfl) ?_
  intro p e s m below meth c G hm w ls hl
  exact B_X12_appends_0 l0 l2 σ G hm  hf w (lv_sub hl [0, 1] rfl)

/-! HillDrumsModel.word(IIIIIII)J -/
def DL_X12_word_0 : List (Nat × Instr × Nat) := [(0, .lconst 0, 1), (1, .iload_n 0, 1), (2, .invokestatic 180, 3), (5, .iload_n 1, 1), (6, .invokestatic 180, 3), (9, .iload_n 2, 1), (10, .invokestatic 180, 3), (13, .iload_n 3, 1), (14, .invokestatic 180, 3), (17, .iload 4, 2), (19, .invokestatic 180, 3), (22, .iload 5, 2), (24, .invokestatic 180, 3), (27, .iload 6, 2), (29, .invokestatic 180, 3), (32, .lreturn, 1)]
set_option maxRecDepth 100000 in
theorem dec_X12_word_0 : dcs cX12_word DL_X12_word_0 = true := by decide +kernel
theorem lb_X12_word : lkB yX12_word cX12_word 7 ((some .long)) 7 := ⟨q_992, q_14, ⟨by decide, by decide⟩, by decide +kernel⟩
def F_X12_word (l0 : Int32) (l1 : Int32) (l2 : Int32) (l3 : Int32) (l4 : Int32) (l5 : Int32) (l6 : Int32) (σ : hSt) : Option (Int64) :=
(F_X12_appends (0 : Int64) l0 σ).bind fun v2 =>
(F_X12_appends v2 l1 σ).bind fun v4 =>
(F_X12_appends v4 l2 σ).bind fun v6 =>
(F_X12_appends v6 l3 σ).bind fun v8 =>
(F_X12_appends v8 l4 σ).bind fun v10 =>
(F_X12_appends v10 l5 σ).bind fun v12 =>
(F_X12_appends v12 l6 σ).bind fun v14 =>
some (v14)
section
variable {p : Program} {l : Launch} {e : Env} {s : State} {m : MethodId} {args : Array Value} {below : List Frame} {meth : Method} {c : Code} {D : va_G} {ay : Nat → ClassId} {ad : Nat → Nat}
set_option maxRecDepth 100000 in
set_option maxHeartbeats 4000000 in
theorem B_X12_word_0 {H : Heap} {locs : List Loc} {ls : Array Slot} {r0 : Int64} (l0 : Int32) (l1 : Int32) (l2 : Int32) (l3 : Int32) (l4 : Int32) (l5 : Int32) (l6 : Int32) (σ : hSt) (G : Gx p m c cX12_word 7 s args RX12 D ay NM ad (aN NM ad)) (hm : meth.sig.returnType = (some .long) ∧ meth.locks = false)  (hf : F_X12_word l0 l1 l2 l3 l4 l5 l6 σ = some r0)  (w : Wd D ay kM NM ad (aN NM ad) s σ H locs) (hl : lv_has ls 7 [(0, .int l0), (1, .int l1), (2, .int l2), (3, .int l3), (4, .int l4), (5, .int l5), (6, .int l6)]) : W p l e (rmK 1 22) s m args below meth c H locs 0 0 (MQ below (cJ D ay kM NM ad r0 σ) args s 0 0 (aN NM ad)) (F0 m 0 ls []) := by
  unfold F_X12_word at hf
  refine lv_lconst (v := (0 : Int64)) G.hx G.hb (dcs_get dec_X12_word_0 0 rfl) (by decide) ?_
  refine lv_iload_n G.hx G.hb (dcs_get dec_X12_word_0 1 rfl) rfl (lv_at hl 0 rfl) ?_
  obtain ⟨v2, h1, hf⟩ := cB_some hf
  refine a_l (k_S (As := [.long (0 : Int64), .int l0]) (rest := []) lb_X12_appends q_994 q_993 (C_X12_appends G.2.2.1 (0 : Int64) l0 σ h1 ) ⟨(Nat.le_of_ble_eq_true rfl), (Nat.le_of_ble_eq_true rfl)⟩ G w rfl rfl hl.1 (Nat.le_of_ble_eq_true rfl) (dcs_get dec_X12_word_0 2 rfl) ⟨Nat.le_refl _, Nat.le_refl _⟩) G w (fun H locs w => ?_)
  refine lv_iload_n G.hx G.hb (dcs_get dec_X12_word_0 3 rfl) rfl (lv_at hl 1 rfl) ?_
  obtain ⟨v4, h3, hf⟩ := cB_some hf
  refine a_l (k_S (As := [.long v2, .int l1]) (rest := []) lb_X12_appends q_994 q_993 (C_X12_appends G.2.2.1 v2 l1 σ h3 ) ⟨(Nat.le_of_ble_eq_true rfl), (Nat.le_of_ble_eq_true rfl)⟩ G w rfl rfl hl.1 (Nat.le_of_ble_eq_true rfl) (dcs_get dec_X12_word_0 4 rfl) ⟨Nat.le_refl _, Nat.le_refl _⟩) G w (fun H locs w => ?_)
  refine lv_iload_n G.hx G.hb (dcs_get dec_X12_word_0 5 rfl) rfl (lv_at hl 2 rfl) ?_
  obtain ⟨v6, h5, hf⟩ := cB_some hf
  refine a_l (k_S (As := [.long v4, .int l2]) (rest := []) lb_X12_appends q_994 q_993 (C_X12_appends G.2.2.1 v4 l2 σ h5 ) ⟨(Nat.le_of_ble_eq_true rfl), (Nat.le_of_ble_eq_true rfl)⟩ G w rfl rfl hl.1 (Nat.le_of_ble_eq_true rfl) (dcs_get dec_X12_word_0 6 rfl) ⟨Nat.le_refl _, Nat.le_refl _⟩) G w (fun H locs w => ?_)
  refine lv_iload_n G.hx G.hb (dcs_get dec_X12_word_0 7 rfl) rfl (lv_at hl 3 rfl) ?_
  obtain ⟨v8, h7, hf⟩ := cB_some hf
  refine a_l (k_S (As := [.long v6, .int l3]) (rest := []) lb_X12_appends q_994 q_993 (C_X12_appends G.2.2.1 v6 l3 σ h7 ) ⟨(Nat.le_of_ble_eq_true rfl), (Nat.le_of_ble_eq_true rfl)⟩ G w rfl rfl hl.1 (Nat.le_of_ble_eq_true rfl) (dcs_get dec_X12_word_0 8 rfl) ⟨Nat.le_refl _, Nat.le_refl _⟩) G w (fun H locs w => ?_)
  refine lv_iload G.hx G.hb (dcs_get dec_X12_word_0 9 rfl) (lv_at hl 4 rfl) ?_
  obtain ⟨v10, h9, hf⟩ := cB_some hf
  refine a_l (k_S (As := [.long v8, .int l4]) (rest := []) lb_X12_appends q_994 q_993 (C_X12_appends G.2.2.1 v8 l4 σ h9 ) ⟨(Nat.le_of_ble_eq_true rfl), (Nat.le_of_ble_eq_true rfl)⟩ G w rfl rfl hl.1 (Nat.le_of_ble_eq_true rfl) (dcs_get dec_X12_word_0 10 rfl) ⟨Nat.le_refl _, Nat.le_refl _⟩) G w (fun H locs w => ?_)
  refine lv_iload G.hx G.hb (dcs_get dec_X12_word_0 11 rfl) (lv_at hl 5 rfl) ?_
  obtain ⟨v12, h11, hf⟩ := cB_some hf
  refine a_l (k_S (As := [.long v10, .int l5]) (rest := []) lb_X12_appends q_994 q_993 (C_X12_appends G.2.2.1 v10 l5 σ h11 ) ⟨(Nat.le_of_ble_eq_true rfl), (Nat.le_of_ble_eq_true rfl)⟩ G w rfl rfl hl.1 (Nat.le_of_ble_eq_true rfl) (dcs_get dec_X12_word_0 12 rfl) ⟨Nat.le_refl _, Nat.le_refl _⟩) G w (fun H locs w => ?_)
  refine lv_iload G.hx G.hb (dcs_get dec_X12_word_0 13 rfl) (lv_at hl 6 rfl) ?_
  obtain ⟨v14, h13, hf⟩ := cB_some hf
  refine a_l (k_S (As := [.long v12, .int l6]) (rest := []) lb_X12_appends q_994 q_993 (C_X12_appends G.2.2.1 v12 l6 σ h13 ) ⟨(Nat.le_of_ble_eq_true rfl), (Nat.le_of_ble_eq_true rfl)⟩ G w rfl rfl hl.1 (Nat.le_of_ble_eq_true rfl) (dcs_get dec_X12_word_0 14 rfl) ⟨Nat.le_refl _, Nat.le_refl _⟩) G w (fun H locs w => ?_)
  have e9 := Option.some.inj hf
  exact r_lret G w hm e9 rfl (dcs_get dec_X12_word_0 15 rfl)
end
set_option maxRecDepth 100000 in
set_option maxHeartbeats 4000000 in
theorem C_X12_word {l : Launch} {D : va_G} {ay : Nat → ClassId} {ad : Nat → Nat} (hi : hInj NM ad) (l0 : Int32) (l1 : Int32) (l2 : Int32) (l3 : Int32) (l4 : Int32) (l5 : Int32) (l6 : Int32) (σ : hSt) {r0 : Int64} (hf : F_X12_word l0 l1 l2 l3 l4 l5 l6 σ = some r0)  : hM l D ay kM NM ad yX12_word cX12_word 7 ((some .long)) (rmK 1 22) [.int l0, .int l1, .int l2, .int l3, .int l4, .int l5, .int l6] σ (cJ D ay kM NM ad r0 σ) := by
  refine hM_in (by decide) hi (Nat.le_of_ble_eq_true rfl) ?_
  intro p e s m below meth c G hm w ls hl
  exact B_X12_word_0 l0 l1 l2 l3 l4 l5 l6 σ G hm  hf w (lv_sub hl [0, 1, 2, 3, 4, 5, 6] rfl)

/-! HillDrumsModel.token(IIIJ)V -/
def DL_X12_token_0 : List (Nat × Instr × Nat) := [(0, .aload_n 0, 1), (1, .getfield 20, 3), (4, .aload_n 0, 1), (5, .getfield 184, 3), (8, .iload_n 1, 1), (9, .iastore, 1), (10, .aload_n 0, 1), (11, .getfield 24, 3), (14, .aload_n 0, 1), (15, .getfield 184, 3), (18, .iload_n 2, 1), (19, .iastore, 1), (20, .aload_n 0, 1), (21, .getfield 27, 3), (24, .aload_n 0, 1), (25, .getfield 184, 3), (28, .iload_n 3, 1), (29, .iastore, 1), (30, .aload_n 0, 1), (31, .getfield 30, 3), (34, .aload_n 0, 1), (35, .getfield 184, 3), (38, .lload 4, 2), (40, .lastore, 1), (41, .aload_n 0, 1), (42, .dup, 1), (43, .getfield 184, 3), (46, .iconst 1, 1), (47, .iadd, 1), (48, .putfield 184, 3), (51, .return_, 1)]
set_option maxRecDepth 100000 in
theorem dec_X12_token_0 : dcs cX12_token DL_X12_token_0 = true := by decide +kernel
theorem lb_X12_token : lkB yX12_token cX12_token 6 (none) 4 := ⟨q_1243, q_14, ⟨by decide, by decide⟩, by decide +kernel⟩
theorem lv_X12_token : lkV yX12_token := ⟨q_1242, qs_70⟩
def F_X12_token (a0 : Nat) (l1 : Int32) (l2 : Int32) (l3 : Int32) (l4 : Int64) (σ : hSt) : Option (hSt) :=
cR (σ.2.2 a0 5) (okr kM NM 101) fun z1 =>
cG (inb (σ.1 a0 10) (kM z1).2) <|
cL (uI σ z1 (σ.1 a0 10).toNatClampNeg l1) fun σ3 =>
cR (σ3.2.2 a0 6) (okr kM NM 101) fun z4 =>
cG (inb (σ3.1 a0 10) (kM z4).2) <|
cL (uI σ3 z4 (σ3.1 a0 10).toNatClampNeg l2) fun σ6 =>
cR (σ6.2.2 a0 7) (okr kM NM 101) fun z7 =>
cG (inb (σ6.1 a0 10) (kM z7).2) <|
cL (uI σ6 z7 (σ6.1 a0 10).toNatClampNeg l3) fun σ9 =>
cR (σ9.2.2 a0 8) (okr kM NM 103) fun z10 =>
cG (inb (σ9.1 a0 10) (kM z10).2) <|
cL (uJ σ9 z10 (σ9.1 a0 10).toNatClampNeg l4) fun σ12 =>
cL (uI σ12 a0 10 ((σ12.1 a0 10) + (1 : Int32))) fun σ13 =>
some (σ13)
section
variable {p : Program} {l : Launch} {e : Env} {s : State} {m : MethodId} {args : Array Value} {below : List Frame} {meth : Method} {c : Code} {D : va_G} {ay : Nat → ClassId} {ad : Nat → Nat}
set_option maxRecDepth 100000 in
set_option maxHeartbeats 4000000 in
theorem B_X12_token_0 {H : Heap} {locs : List Loc} {ls : Array Slot} {σ0 : hSt} (a0 : Nat) (l1 : Int32) (l2 : Int32) (l3 : Int32) (l4 : Int64) (σ : hSt) (G : Gx p m c cX12_token 6 s args RX12 D ay NM ad (aN NM ad)) (hm : meth.sig.returnType = none ∧ meth.locks = false) (ok_a0 : okr kM NM 12 a0 = true) (hf : F_X12_token a0 l1 l2 l3 l4 σ = some σ0)  (w : Wd D ay kM NM ad (aN NM ad) s σ H locs) (hl : lv_has ls 6 [(0, .ref (ad a0)), (1, .int l1), (2, .int l2), (3, .int l3), (4, .long l4)]) : W p l e (rmK 0 0) s m args below meth c H locs 0 0 (MQ below (cV D ay kM NM ad σ0) args s 0 0 (aN NM ad)) (F0 m 0 ls []) := by
  have k_a0 := okr_in ok_a0
  unfold F_X12_token at hf
  refine lv_aload_n G.hx G.hb (dcs_get dec_X12_token_0 0 rfl) rfl (lv_at hl 0 rfl) ?_
  obtain ⟨z1, e_z1, ok_z1, hf⟩ := cR_some hf
  have k_z1 := okr_in ok_z1
  refine r_getr (k := 5) cls12 fi_12_5.1 fi_12_5.2 q_1013 G w k_a0.1 k_a0.2 e_z1 (dcs_get dec_X12_token_0 1 rfl) ?_
  refine lv_aload_n G.hx G.hb (dcs_get dec_X12_token_0 2 rfl) rfl (lv_at hl 0 rfl) ?_
  refine r_geti (k := 10) cls12 fi_12_10.1 fi_12_10.2 q_1018 G w k_a0.1 k_a0.2 (dcs_get dec_X12_token_0 3 rfl) ?_
  refine lv_iload_n G.hx G.hb (dcs_get dec_X12_token_0 4 rfl) rfl (lv_at hl 1 rfl) ?_
  obtain ⟨h2, hf⟩ := cG_some hf
  obtain ⟨σ3, e_σ3, hf⟩ := cL_some hf
  refine r_iast G w k_z1.1 k_z1.2 h2 (dcs_get dec_X12_token_0 5 rfl) (fun H locs w => ?_)
  have w := Wd.nm e_σ3 w
  refine lv_aload_n G.hx G.hb (dcs_get dec_X12_token_0 6 rfl) rfl (lv_at hl 0 rfl) ?_
  obtain ⟨z4, e_z4, ok_z4, hf⟩ := cR_some hf
  have k_z4 := okr_in ok_z4
  refine r_getr (k := 6) cls12 fi_12_6.1 fi_12_6.2 q_1014 G w k_a0.1 k_a0.2 e_z4 (dcs_get dec_X12_token_0 7 rfl) ?_
  refine lv_aload_n G.hx G.hb (dcs_get dec_X12_token_0 8 rfl) rfl (lv_at hl 0 rfl) ?_
  refine r_geti (k := 10) cls12 fi_12_10.1 fi_12_10.2 q_1018 G w k_a0.1 k_a0.2 (dcs_get dec_X12_token_0 9 rfl) ?_
  refine lv_iload_n G.hx G.hb (dcs_get dec_X12_token_0 10 rfl) rfl (lv_at hl 2 rfl) ?_
  obtain ⟨h5, hf⟩ := cG_some hf
  obtain ⟨σ6, e_σ6, hf⟩ := cL_some hf
  refine r_iast G w k_z4.1 k_z4.2 h5 (dcs_get dec_X12_token_0 11 rfl) (fun H locs w => ?_)
  have w := Wd.nm e_σ6 w
  refine lv_aload_n G.hx G.hb (dcs_get dec_X12_token_0 12 rfl) rfl (lv_at hl 0 rfl) ?_
  obtain ⟨z7, e_z7, ok_z7, hf⟩ := cR_some hf
  have k_z7 := okr_in ok_z7
  refine r_getr (k := 7) cls12 fi_12_7.1 fi_12_7.2 q_1015 G w k_a0.1 k_a0.2 e_z7 (dcs_get dec_X12_token_0 13 rfl) ?_
  refine lv_aload_n G.hx G.hb (dcs_get dec_X12_token_0 14 rfl) rfl (lv_at hl 0 rfl) ?_
  refine r_geti (k := 10) cls12 fi_12_10.1 fi_12_10.2 q_1018 G w k_a0.1 k_a0.2 (dcs_get dec_X12_token_0 15 rfl) ?_
  refine lv_iload_n G.hx G.hb (dcs_get dec_X12_token_0 16 rfl) rfl (lv_at hl 3 rfl) ?_
  obtain ⟨h8, hf⟩ := cG_some hf
  obtain ⟨σ9, e_σ9, hf⟩ := cL_some hf
  refine r_iast G w k_z7.1 k_z7.2 h8 (dcs_get dec_X12_token_0 17 rfl) (fun H locs w => ?_)
  have w := Wd.nm e_σ9 w
  refine lv_aload_n G.hx G.hb (dcs_get dec_X12_token_0 18 rfl) rfl (lv_at hl 0 rfl) ?_
  obtain ⟨z10, e_z10, ok_z10, hf⟩ := cR_some hf
  have k_z10 := okr_in ok_z10
  refine r_getr (k := 8) cls12 fi_12_8.1 fi_12_8.2 q_1016 G w k_a0.1 k_a0.2 e_z10 (dcs_get dec_X12_token_0 19 rfl) ?_
  refine lv_aload_n G.hx G.hb (dcs_get dec_X12_token_0 20 rfl) rfl (lv_at hl 0 rfl) ?_
  refine r_geti (k := 10) cls12 fi_12_10.1 fi_12_10.2 q_1018 G w k_a0.1 k_a0.2 (dcs_get dec_X12_token_0 21 rfl) ?_
  refine lv_lload G.hx G.hb (dcs_get dec_X12_token_0 22 rfl) (lv_at hl 4 rfl) ?_
  obtain ⟨h11, hf⟩ := cG_some hf
  obtain ⟨σ12, e_σ12, hf⟩ := cL_some hf
  refine r_last G w k_z10.1 k_z10.2 h11 (dcs_get dec_X12_token_0 23 rfl) (fun H locs w => ?_)
  have w := Wd.nm e_σ12 w
  refine lv_aload_n G.hx G.hb (dcs_get dec_X12_token_0 24 rfl) rfl (lv_at hl 0 rfl) ?_
  refine lv_dup G.hx G.hb (dcs_get dec_X12_token_0 25 rfl) rfl ?_
  refine r_geti (k := 10) cls12 fi_12_10.1 fi_12_10.2 q_1018 G w k_a0.1 k_a0.2 (dcs_get dec_X12_token_0 26 rfl) ?_
  refine lv_iconst (v := (1 : Int32)) G.hx G.hb (dcs_get dec_X12_token_0 27 rfl) (by decide) ?_
  refine lv_iadd G.hx G.hb (dcs_get dec_X12_token_0 28 rfl) ?_
  obtain ⟨σ13, e_σ13, hf⟩ := cL_some hf
  refine r_puti (k := 10) cls12 ct12 fi_12_10.1 fi_12_10.2 fp_12_10.1 fp_12_10.2 q_1018 rfl rfl G w k_a0.1 k_a0.2 (dcs_get dec_X12_token_0 29 rfl) (fun H locs w => ?_)
  have w := Wd.nm e_σ13 w
  have e9 := Option.some.inj hf
  exact r_vret G w hm e9 (dcs_get dec_X12_token_0 30 rfl)
end
set_option maxRecDepth 100000 in
set_option maxHeartbeats 4000000 in
theorem C_X12_token {l : Launch} {D : va_G} {ay : Nat → ClassId} {ad : Nat → Nat} (hi : hInj NM ad) (a0 : Nat) (l1 : Int32) (l2 : Int32) (l3 : Int32) (l4 : Int64) (σ : hSt) {σ0 : hSt} (hf : F_X12_token a0 l1 l2 l3 l4 σ = some σ0) (ok_a0 : okr kM NM 12 a0 = true) : hM l D ay kM NM ad yX12_token cX12_token 6 (none) (rmK 0 0) [.ref (ad a0), .int l1, .int l2, .int l3, .long l4] σ (cV D ay kM NM ad σ0) := by
  refine hM_in (by decide) hi (Nat.le_of_ble_eq_true rfl) ?_
  intro p e s m below meth c G hm w ls hl
  exact B_X12_token_0 a0 l1 l2 l3 l4 σ G hm ok_a0 hf w (lv_sub hl [0, 1, 2, 3, 4] rfl)

/-! HillDrumsModel.sign(III)I -/
def DL_X12_sign_0 : List (Nat × Instr × Nat) := [(0, .iload_n 2, 1), (1, .bipush 59, 2), (3, .if_icmp .ne 7, 3), (6, .iconst 4, 1), (7, .goto 36, 3), (10, .iload_n 2, 1), (11, .bipush 61, 2), (13, .if_icmp .ne 7, 3), (16, .iconst 5, 1), (17, .goto 26, 3), (20, .iload_n 2, 1), (21, .bipush 40, 2), (23, .if_icmp .ne 8, 3), (26, .bipush 6, 2), (28, .goto 15, 3), (31, .iload_n 2, 1), (32, .bipush 41, 2), (34, .if_icmp .ne 8, 3), (37, .bipush 7, 2), (39, .goto 4, 3), (42, .iconst 3, 1), (43, .istore 4, 2), (45, .iload_n 2, 1), (46, .bipush 43, 2), (48, .if_icmp .ne 7, 3), (51, .bipush 8, 2), (53, .istore 4, 2), (55, .iload_n 2, 1), (56, .bipush 45, 2), (58, .if_icmp .ne 7, 3), (61, .bipush 9, 2), (63, .istore 4, 2), (65, .iload_n 2, 1), (66, .bipush 42, 2), (68, .if_icmp .ne 7, 3), (71, .bipush 10, 2), (73, .istore 4, 2), (75, .iload_n 2, 1), (76, .bipush 47, 2), (78, .if_icmp .ne 7, 3)]
set_option maxRecDepth 100000 in
theorem dec_X12_sign_0 : dcs cX12_sign DL_X12_sign_0 = true := by decide +kernel
def DL_X12_sign_1 : List (Nat × Instr × Nat) := [(81, .bipush 15, 2), (83, .istore 4, 2), (85, .iload_n 2, 1), (86, .bipush 60, 2), (88, .if_icmp .ne 7, 3), (91, .bipush 13, 2), (93, .istore 4, 2), (95, .aload_n 0, 1), (96, .iload 4, 2), (98, .iload_n 1, 1), (99, .iconst 0, 1), (100, .lconst 0, 1), (101, .invokevirtual 191, 3), (104, .iconst 1, 1), (105, .ireturn, 1)]
set_option maxRecDepth 100000 in
theorem dec_X12_sign_1 : dcs cX12_sign DL_X12_sign_1 = true := by decide +kernel
theorem lb_X12_sign : lkB yX12_sign cX12_sign 5 ((some .int)) 3 := ⟨q_1253, q_14, ⟨by decide, by decide⟩, by decide +kernel⟩
theorem lv_X12_sign : lkV yX12_sign := ⟨q_1252, qs_71⟩
def F_X12_sign_95 (a0 : Nat) (l1 : Int32) (l4 : Int32) (σ : hSt) : Option (Int32 × hSt) :=
(F_X12_token a0 l4 l1 (0 : Int32) (0 : Int64) σ).bind fun σ2 =>
some (((1 : Int32), σ2))
def F_X12_sign_85 (a0 : Nat) (l1 : Int32) (l2 : Int32) (l4 : Int32) (σ : hSt) : Option (Int32 × hSt) :=
if l2 = (60 : Int32) then (
F_X12_sign_95 a0 l1 (13 : Int32) σ) else (
F_X12_sign_95 a0 l1 l4 σ)
def F_X12_sign_75 (a0 : Nat) (l1 : Int32) (l2 : Int32) (l4 : Int32) (σ : hSt) : Option (Int32 × hSt) :=
if l2 = (47 : Int32) then (
F_X12_sign_85 a0 l1 l2 (15 : Int32) σ) else (
F_X12_sign_85 a0 l1 l2 l4 σ)
def F_X12_sign_65 (a0 : Nat) (l1 : Int32) (l2 : Int32) (l4 : Int32) (σ : hSt) : Option (Int32 × hSt) :=
if l2 = (42 : Int32) then (
F_X12_sign_75 a0 l1 l2 (10 : Int32) σ) else (
F_X12_sign_75 a0 l1 l2 l4 σ)
def F_X12_sign_55 (a0 : Nat) (l1 : Int32) (l2 : Int32) (l4 : Int32) (σ : hSt) : Option (Int32 × hSt) :=
if l2 = (45 : Int32) then (
F_X12_sign_65 a0 l1 l2 (9 : Int32) σ) else (
F_X12_sign_65 a0 l1 l2 l4 σ)
def F_X12_sign_43 (a0 : Nat) (l1 : Int32) (l2 : Int32) (s0 : Int32) (σ : hSt) : Option (Int32 × hSt) :=
if l2 = (43 : Int32) then (
F_X12_sign_55 a0 l1 l2 (8 : Int32) σ) else (
F_X12_sign_55 a0 l1 l2 s0 σ)
def F_X12_sign_e (a0 : Nat) (l1 : Int32) (l2 : Int32) (σ : hSt) : Option (Int32 × hSt) :=
if l2 = (59 : Int32) then (
F_X12_sign_43 a0 l1 l2 (4 : Int32) σ) else (
if l2 = (61 : Int32) then (
F_X12_sign_43 a0 l1 l2 (5 : Int32) σ) else (
if l2 = (40 : Int32) then (
F_X12_sign_43 a0 l1 l2 (6 : Int32) σ) else (
if l2 = (41 : Int32) then (
F_X12_sign_43 a0 l1 l2 (7 : Int32) σ) else (
F_X12_sign_43 a0 l1 l2 (3 : Int32) σ))))
def F_X12_sign (a0 : Nat) (l1 : Int32) (l2 : Int32) (l3 : Int32) (σ : hSt) : Option (Int32 × hSt) := F_X12_sign_e a0 l1 l2 σ
section
variable {p : Program} {l : Launch} {e : Env} {s : State} {m : MethodId} {args : Array Value} {below : List Frame} {meth : Method} {c : Code} {D : va_G} {ay : Nat → ClassId} {ad : Nat → Nat}
set_option maxRecDepth 100000 in
set_option maxHeartbeats 4000000 in
theorem B_X12_sign_95 {H : Heap} {locs : List Loc} {ls : Array Slot} {r0 : Int32} {σ0 : hSt} (a0 : Nat) (l1 : Int32) (l4 : Int32) (σ : hSt) (G : Gx p m c cX12_sign 5 s args RX12 D ay NM ad (aN NM ad)) (hm : meth.sig.returnType = (some .int) ∧ meth.locks = false) (ok_a0 : okr kM NM 12 a0 = true) (hf : F_X12_sign_95 a0 l1 l4 σ = some (r0, σ0))  (w : Wd D ay kM NM ad (aN NM ad) s σ H locs) (hl : lv_has ls 5 [(0, .ref (ad a0)), (1, .int l1), (4, .int l4)]) : W p l e (rmK 1 25) s m args below meth c H locs 0 0 (MQ below (cI D ay kM NM ad r0 σ0) args s 0 0 (aN NM ad)) (F0 m 95 ls []) := by
  have k_a0 := okr_in ok_a0
  unfold F_X12_sign_95 at hf
  refine lv_aload_n G.hx G.hb (dcs_get dec_X12_sign_1 7 rfl) rfl (lv_at hl 0 rfl) ?_
  refine lv_iload G.hx G.hb (dcs_get dec_X12_sign_1 8 rfl) (lv_at hl 2 rfl) ?_
  refine lv_iload_n G.hx G.hb (dcs_get dec_X12_sign_1 9 rfl) rfl (lv_at hl 1 rfl) ?_
  refine lv_iconst (v := (0 : Int32)) G.hx G.hb (dcs_get dec_X12_sign_1 10 rfl) (by decide) ?_
  refine lv_lconst (v := (0 : Int64)) G.hx G.hb (dcs_get dec_X12_sign_1 11 rfl) (by decide) ?_
  obtain ⟨σ2, h1, hf⟩ := cB_some hf
  refine a_v (k_V (As := [.int l4, .int l1, .int (0 : Int32), .long (0 : Int64)]) (rest := []) cls12 lb_X12_token lv_X12_token q_1240 (C_X12_token G.2.2.1 a0 l4 l1 (0 : Int32) (0 : Int64) σ h1 ok_a0) ⟨(Nat.le_of_ble_eq_true rfl), (Nat.le_of_ble_eq_true rfl)⟩ G w k_a0.1 k_a0.2 rfl rfl hl.1 (Nat.le_of_ble_eq_true rfl) (dcs_get dec_X12_sign_1 12 rfl) ⟨Nat.le_refl _, Nat.le_refl _⟩) G w (fun H locs w => ?_)
  refine lv_iconst (v := (1 : Int32)) G.hx G.hb (dcs_get dec_X12_sign_1 13 rfl) (by decide) ?_
  have e9 := Option.some.inj hf
  exact r_iret G w hm (congrArg Prod.fst e9) (congrArg Prod.snd e9) (dcs_get dec_X12_sign_1 14 rfl)
set_option maxRecDepth 100000 in
set_option maxHeartbeats 4000000 in
theorem B_X12_sign_85 {H : Heap} {locs : List Loc} {ls : Array Slot} {r0 : Int32} {σ0 : hSt} (a0 : Nat) (l1 : Int32) (l2 : Int32) (l4 : Int32) (σ : hSt) (G : Gx p m c cX12_sign 5 s args RX12 D ay NM ad (aN NM ad)) (hm : meth.sig.returnType = (some .int) ∧ meth.locks = false) (ok_a0 : okr kM NM 12 a0 = true) (hf : F_X12_sign_85 a0 l1 l2 l4 σ = some (r0, σ0))  (w : Wd D ay kM NM ad (aN NM ad) s σ H locs) (hl : lv_has ls 5 [(0, .ref (ad a0)), (1, .int l1), (2, .int l2), (4, .int l4)]) : W p l e (rmK 1 25) s m args below meth c H locs 0 0 (MQ below (cI D ay kM NM ad r0 σ0) args s 0 0 (aN NM ad)) (F0 m 85 ls []) := by
  have k_a0 := okr_in ok_a0
  unfold F_X12_sign_85 at hf
  refine lv_iload_n G.hx G.hb (dcs_get dec_X12_sign_1 2 rfl) rfl (lv_at hl 2 rfl) ?_
  refine lv_bipush (v := (60 : Int32)) G.hx G.hb (dcs_get dec_X12_sign_1 3 rfl) (by decide) ?_
  refine lv_icmp_ne (tgt := 95) G.hx G.hb (dcs_get dec_X12_sign_1 4 rfl) (by decide) (fun hc => ?_) (fun hc => ?_)
  · rw [if_neg hc] at hf
    exact B_X12_sign_95 a0 l1 l4 σ G hm ok_a0 hf  w (lv_sub hl [0, 1, 3] rfl)
  · rw [if_pos hc] at hf
    refine lv_bipush (v := (13 : Int32)) G.hx G.hb (dcs_get dec_X12_sign_1 5 rfl) (by decide) ?_
    refine lv_istore (lv' := [(4, .int (13 : Int32)), (0, .ref (ad a0)), (1, .int l1), (2, .int l2)]) G.hx G.hb (dcs_get dec_X12_sign_1 6 rfl) hl (by decide) rfl (fun ls hl => ?_)
    exact B_X12_sign_95 a0 l1 (13 : Int32) σ G hm ok_a0 hf  w (lv_sub hl [1, 2, 0] rfl)
set_option maxRecDepth 100000 in
set_option maxHeartbeats 4000000 in
theorem B_X12_sign_75 {H : Heap} {locs : List Loc} {ls : Array Slot} {r0 : Int32} {σ0 : hSt} (a0 : Nat) (l1 : Int32) (l2 : Int32) (l4 : Int32) (σ : hSt) (G : Gx p m c cX12_sign 5 s args RX12 D ay NM ad (aN NM ad)) (hm : meth.sig.returnType = (some .int) ∧ meth.locks = false) (ok_a0 : okr kM NM 12 a0 = true) (hf : F_X12_sign_75 a0 l1 l2 l4 σ = some (r0, σ0))  (w : Wd D ay kM NM ad (aN NM ad) s σ H locs) (hl : lv_has ls 5 [(0, .ref (ad a0)), (1, .int l1), (2, .int l2), (4, .int l4)]) : W p l e (rmK 1 25) s m args below meth c H locs 0 0 (MQ below (cI D ay kM NM ad r0 σ0) args s 0 0 (aN NM ad)) (F0 m 75 ls []) := by
  have k_a0 := okr_in ok_a0
  unfold F_X12_sign_75 at hf
  refine lv_iload_n G.hx G.hb (dcs_get dec_X12_sign_0 37 rfl) rfl (lv_at hl 2 rfl) ?_
  refine lv_bipush (v := (47 : Int32)) G.hx G.hb (dcs_get dec_X12_sign_0 38 rfl) (by decide) ?_
  refine lv_icmp_ne (tgt := 85) G.hx G.hb (dcs_get dec_X12_sign_0 39 rfl) (by decide) (fun hc => ?_) (fun hc => ?_)
  · rw [if_neg hc] at hf
    exact B_X12_sign_85 a0 l1 l2 l4 σ G hm ok_a0 hf  w (lv_sub hl [0, 1, 2, 3] rfl)
  · rw [if_pos hc] at hf
    refine lv_bipush (v := (15 : Int32)) G.hx G.hb (dcs_get dec_X12_sign_1 0 rfl) (by decide) ?_
    refine lv_istore (lv' := [(4, .int (15 : Int32)), (0, .ref (ad a0)), (1, .int l1), (2, .int l2)]) G.hx G.hb (dcs_get dec_X12_sign_1 1 rfl) hl (by decide) rfl (fun ls hl => ?_)
    exact B_X12_sign_85 a0 l1 l2 (15 : Int32) σ G hm ok_a0 hf  w (lv_sub hl [1, 2, 3, 0] rfl)
set_option maxRecDepth 100000 in
set_option maxHeartbeats 4000000 in
theorem B_X12_sign_65 {H : Heap} {locs : List Loc} {ls : Array Slot} {r0 : Int32} {σ0 : hSt} (a0 : Nat) (l1 : Int32) (l2 : Int32) (l4 : Int32) (σ : hSt) (G : Gx p m c cX12_sign 5 s args RX12 D ay NM ad (aN NM ad)) (hm : meth.sig.returnType = (some .int) ∧ meth.locks = false) (ok_a0 : okr kM NM 12 a0 = true) (hf : F_X12_sign_65 a0 l1 l2 l4 σ = some (r0, σ0))  (w : Wd D ay kM NM ad (aN NM ad) s σ H locs) (hl : lv_has ls 5 [(0, .ref (ad a0)), (1, .int l1), (2, .int l2), (4, .int l4)]) : W p l e (rmK 1 25) s m args below meth c H locs 0 0 (MQ below (cI D ay kM NM ad r0 σ0) args s 0 0 (aN NM ad)) (F0 m 65 ls []) := by
  have k_a0 := okr_in ok_a0
  unfold F_X12_sign_65 at hf
  refine lv_iload_n G.hx G.hb (dcs_get dec_X12_sign_0 32 rfl) rfl (lv_at hl 2 rfl) ?_
  refine lv_bipush (v := (42 : Int32)) G.hx G.hb (dcs_get dec_X12_sign_0 33 rfl) (by decide) ?_
  refine lv_icmp_ne (tgt := 75) G.hx G.hb (dcs_get dec_X12_sign_0 34 rfl) (by decide) (fun hc => ?_) (fun hc => ?_)
  · rw [if_neg hc] at hf
    exact B_X12_sign_75 a0 l1 l2 l4 σ G hm ok_a0 hf  w (lv_sub hl [0, 1, 2, 3] rfl)
  · rw [if_pos hc] at hf
    refine lv_bipush (v := (10 : Int32)) G.hx G.hb (dcs_get dec_X12_sign_0 35 rfl) (by decide) ?_
    refine lv_istore (lv' := [(4, .int (10 : Int32)), (0, .ref (ad a0)), (1, .int l1), (2, .int l2)]) G.hx G.hb (dcs_get dec_X12_sign_0 36 rfl) hl (by decide) rfl (fun ls hl => ?_)
    exact B_X12_sign_75 a0 l1 l2 (10 : Int32) σ G hm ok_a0 hf  w (lv_sub hl [1, 2, 3, 0] rfl)
set_option maxRecDepth 100000 in
set_option maxHeartbeats 4000000 in
theorem B_X12_sign_55 {H : Heap} {locs : List Loc} {ls : Array Slot} {r0 : Int32} {σ0 : hSt} (a0 : Nat) (l1 : Int32) (l2 : Int32) (l4 : Int32) (σ : hSt) (G : Gx p m c cX12_sign 5 s args RX12 D ay NM ad (aN NM ad)) (hm : meth.sig.returnType = (some .int) ∧ meth.locks = false) (ok_a0 : okr kM NM 12 a0 = true) (hf : F_X12_sign_55 a0 l1 l2 l4 σ = some (r0, σ0))  (w : Wd D ay kM NM ad (aN NM ad) s σ H locs) (hl : lv_has ls 5 [(0, .ref (ad a0)), (1, .int l1), (2, .int l2), (4, .int l4)]) : W p l e (rmK 1 25) s m args below meth c H locs 0 0 (MQ below (cI D ay kM NM ad r0 σ0) args s 0 0 (aN NM ad)) (F0 m 55 ls []) := by
  have k_a0 := okr_in ok_a0
  unfold F_X12_sign_55 at hf
  refine lv_iload_n G.hx G.hb (dcs_get dec_X12_sign_0 27 rfl) rfl (lv_at hl 2 rfl) ?_
  refine lv_bipush (v := (45 : Int32)) G.hx G.hb (dcs_get dec_X12_sign_0 28 rfl) (by decide) ?_
  refine lv_icmp_ne (tgt := 65) G.hx G.hb (dcs_get dec_X12_sign_0 29 rfl) (by decide) (fun hc => ?_) (fun hc => ?_)
  · rw [if_neg hc] at hf
    exact B_X12_sign_65 a0 l1 l2 l4 σ G hm ok_a0 hf  w (lv_sub hl [0, 1, 2, 3] rfl)
  · rw [if_pos hc] at hf
    refine lv_bipush (v := (9 : Int32)) G.hx G.hb (dcs_get dec_X12_sign_0 30 rfl) (by decide) ?_
    refine lv_istore (lv' := [(4, .int (9 : Int32)), (0, .ref (ad a0)), (1, .int l1), (2, .int l2)]) G.hx G.hb (dcs_get dec_X12_sign_0 31 rfl) hl (by decide) rfl (fun ls hl => ?_)
    exact B_X12_sign_65 a0 l1 l2 (9 : Int32) σ G hm ok_a0 hf  w (lv_sub hl [1, 2, 3, 0] rfl)
set_option maxRecDepth 100000 in
set_option maxHeartbeats 4000000 in
theorem B_X12_sign_43 {H : Heap} {locs : List Loc} {ls : Array Slot} {r0 : Int32} {σ0 : hSt} (a0 : Nat) (l1 : Int32) (l2 : Int32) (s0 : Int32) (σ : hSt) (G : Gx p m c cX12_sign 5 s args RX12 D ay NM ad (aN NM ad)) (hm : meth.sig.returnType = (some .int) ∧ meth.locks = false) (ok_a0 : okr kM NM 12 a0 = true) (hf : F_X12_sign_43 a0 l1 l2 s0 σ = some (r0, σ0))  (w : Wd D ay kM NM ad (aN NM ad) s σ H locs) (hl : lv_has ls 5 [(0, .ref (ad a0)), (1, .int l1), (2, .int l2)]) : W p l e (rmK 1 25) s m args below meth c H locs 0 0 (MQ below (cI D ay kM NM ad r0 σ0) args s 0 0 (aN NM ad)) (F0 m 43 ls [.int s0]) := by
  have k_a0 := okr_in ok_a0
  unfold F_X12_sign_43 at hf
  refine lv_istore (lv' := [(4, .int s0), (0, .ref (ad a0)), (1, .int l1), (2, .int l2)]) G.hx G.hb (dcs_get dec_X12_sign_0 21 rfl) hl (by decide) rfl (fun ls hl => ?_)
  refine lv_iload_n G.hx G.hb (dcs_get dec_X12_sign_0 22 rfl) rfl (lv_at hl 3 rfl) ?_
  refine lv_bipush (v := (43 : Int32)) G.hx G.hb (dcs_get dec_X12_sign_0 23 rfl) (by decide) ?_
  refine lv_icmp_ne (tgt := 55) G.hx G.hb (dcs_get dec_X12_sign_0 24 rfl) (by decide) (fun hc => ?_) (fun hc => ?_)
  · rw [if_neg hc] at hf
    exact B_X12_sign_55 a0 l1 l2 s0 σ G hm ok_a0 hf  w (lv_sub hl [1, 2, 3, 0] rfl)
  · rw [if_pos hc] at hf
    refine lv_bipush (v := (8 : Int32)) G.hx G.hb (dcs_get dec_X12_sign_0 25 rfl) (by decide) ?_
    refine lv_istore (lv' := [(4, .int (8 : Int32)), (0, .ref (ad a0)), (1, .int l1), (2, .int l2)]) G.hx G.hb (dcs_get dec_X12_sign_0 26 rfl) hl (by decide) rfl (fun ls hl => ?_)
    exact B_X12_sign_55 a0 l1 l2 (8 : Int32) σ G hm ok_a0 hf  w (lv_sub hl [1, 2, 3, 0] rfl)
set_option maxRecDepth 100000 in
set_option maxHeartbeats 4000000 in
theorem B_X12_sign_0 {H : Heap} {locs : List Loc} {ls : Array Slot} {r0 : Int32} {σ0 : hSt} (a0 : Nat) (l1 : Int32) (l2 : Int32) (σ : hSt) (G : Gx p m c cX12_sign 5 s args RX12 D ay NM ad (aN NM ad)) (hm : meth.sig.returnType = (some .int) ∧ meth.locks = false) (ok_a0 : okr kM NM 12 a0 = true) (hf : F_X12_sign_e a0 l1 l2 σ = some (r0, σ0))  (w : Wd D ay kM NM ad (aN NM ad) s σ H locs) (hl : lv_has ls 5 [(0, .ref (ad a0)), (1, .int l1), (2, .int l2)]) : W p l e (rmK 1 25) s m args below meth c H locs 0 0 (MQ below (cI D ay kM NM ad r0 σ0) args s 0 0 (aN NM ad)) (F0 m 0 ls []) := by
  have k_a0 := okr_in ok_a0
  unfold F_X12_sign_e at hf
  refine lv_iload_n G.hx G.hb (dcs_get dec_X12_sign_0 0 rfl) rfl (lv_at hl 2 rfl) ?_
  refine lv_bipush (v := (59 : Int32)) G.hx G.hb (dcs_get dec_X12_sign_0 1 rfl) (by decide) ?_
  refine lv_icmp_ne (tgt := 10) G.hx G.hb (dcs_get dec_X12_sign_0 2 rfl) (by decide) (fun hc => ?_) (fun hc => ?_)
  · rw [if_neg hc] at hf
    refine lv_iload_n G.hx G.hb (dcs_get dec_X12_sign_0 5 rfl) rfl (lv_at hl 2 rfl) ?_
    refine lv_bipush (v := (61 : Int32)) G.hx G.hb (dcs_get dec_X12_sign_0 6 rfl) (by decide) ?_
    refine lv_icmp_ne (tgt := 20) G.hx G.hb (dcs_get dec_X12_sign_0 7 rfl) (by decide) (fun hc => ?_) (fun hc => ?_)
    · rw [if_neg hc] at hf
      refine lv_iload_n G.hx G.hb (dcs_get dec_X12_sign_0 10 rfl) rfl (lv_at hl 2 rfl) ?_
      refine lv_bipush (v := (40 : Int32)) G.hx G.hb (dcs_get dec_X12_sign_0 11 rfl) (by decide) ?_
      refine lv_icmp_ne (tgt := 31) G.hx G.hb (dcs_get dec_X12_sign_0 12 rfl) (by decide) (fun hc => ?_) (fun hc => ?_)
      · rw [if_neg hc] at hf
        refine lv_iload_n G.hx G.hb (dcs_get dec_X12_sign_0 15 rfl) rfl (lv_at hl 2 rfl) ?_
        refine lv_bipush (v := (41 : Int32)) G.hx G.hb (dcs_get dec_X12_sign_0 16 rfl) (by decide) ?_
        refine lv_icmp_ne (tgt := 42) G.hx G.hb (dcs_get dec_X12_sign_0 17 rfl) (by decide) (fun hc => ?_) (fun hc => ?_)
        · rw [if_neg hc] at hf
          refine lv_iconst (v := (3 : Int32)) G.hx G.hb (dcs_get dec_X12_sign_0 20 rfl) (by decide) ?_
          exact B_X12_sign_43 a0 l1 l2 (3 : Int32) σ G hm ok_a0 hf  w (lv_sub hl [0, 1, 2] rfl)
        · rw [if_pos hc] at hf
          refine lv_bipush (v := (7 : Int32)) G.hx G.hb (dcs_get dec_X12_sign_0 18 rfl) (by decide) ?_
          refine lv_goto (tgt := 43) G.hx G.hb (dcs_get dec_X12_sign_0 19 rfl) (by decide) ?_
          exact B_X12_sign_43 a0 l1 l2 (7 : Int32) σ G hm ok_a0 hf  w (lv_sub hl [0, 1, 2] rfl)
      · rw [if_pos hc] at hf
        refine lv_bipush (v := (6 : Int32)) G.hx G.hb (dcs_get dec_X12_sign_0 13 rfl) (by decide) ?_
        refine lv_goto (tgt := 43) G.hx G.hb (dcs_get dec_X12_sign_0 14 rfl) (by decide) ?_
        exact B_X12_sign_43 a0 l1 l2 (6 : Int32) σ G hm ok_a0 hf  w (lv_sub hl [0, 1, 2] rfl)
    · rw [if_pos hc] at hf
      refine lv_iconst (v := (5 : Int32)) G.hx G.hb (dcs_get dec_X12_sign_0 8 rfl) (by decide) ?_
      refine lv_goto (tgt := 43) G.hx G.hb (dcs_get dec_X12_sign_0 9 rfl) (by decide) ?_
      exact B_X12_sign_43 a0 l1 l2 (5 : Int32) σ G hm ok_a0 hf  w (lv_sub hl [0, 1, 2] rfl)
  · rw [if_pos hc] at hf
    refine lv_iconst (v := (4 : Int32)) G.hx G.hb (dcs_get dec_X12_sign_0 3 rfl) (by decide) ?_
    refine lv_goto (tgt := 43) G.hx G.hb (dcs_get dec_X12_sign_0 4 rfl) (by decide) ?_
    exact B_X12_sign_43 a0 l1 l2 (4 : Int32) σ G hm ok_a0 hf  w (lv_sub hl [0, 1, 2] rfl)
end
set_option maxRecDepth 100000 in
set_option maxHeartbeats 4000000 in
theorem C_X12_sign {l : Launch} {D : va_G} {ay : Nat → ClassId} {ad : Nat → Nat} (hi : hInj NM ad) (a0 : Nat) (l1 : Int32) (l2 : Int32) (l3 : Int32) (σ : hSt) {r0 : Int32} {σ0 : hSt} (hf : F_X12_sign a0 l1 l2 l3 σ = some (r0, σ0)) (ok_a0 : okr kM NM 12 a0 = true) : hM l D ay kM NM ad yX12_sign cX12_sign 5 ((some .int)) (rmK 1 25) [.ref (ad a0), .int l1, .int l2, .int l3] σ (cI D ay kM NM ad r0 σ0) := by
  unfold F_X12_sign at hf
  refine hM_in (by decide) hi (Nat.le_of_ble_eq_true rfl) ?_
  intro p e s m below meth c G hm w ls hl
  exact B_X12_sign_0 a0 l1 l2 σ G hm ok_a0 hf w (lv_sub hl [0, 1, 2] rfl)

/-! HillDrumsModel.cut()V -/
def DL_X12_cut_0 : List (Nat × Instr × Nat) := [(0, .aload_n 0, 1), (1, .iconst 0, 1), (2, .putfield 184, 3), (5, .iconst 0, 1), (6, .istore_n 1, 1), (7, .aload_n 0, 1), (8, .getfield 184, 3), (11, .sipush 400, 3), (14, .if_icmp .gt 280, 3), (17, .aload_n 0, 1), (18, .iload_n 1, 1), (19, .invokevirtual 187, 3), (22, .istore_n 2, 1), (23, .iload_n 1, 1), (24, .aload_n 0, 1), (25, .getfield 175, 3), (28, .if_icmp .lt 15, 3), (31, .aload_n 0, 1), (32, .iconst 0, 1), (33, .aload_n 0, 1), (34, .getfield 175, 3), (37, .iconst 0, 1), (38, .lconst 0, 1), (39, .invokevirtual 191, 3), (42, .return_, 1), (43, .iload_n 2, 1), (44, .bipush 9, 2), (46, .if_icmp .eq 21, 3), (49, .iload_n 2, 1), (50, .bipush 10, 2), (52, .if_icmp .eq 15, 3), (55, .iload_n 2, 1), (56, .bipush 13, 2), (58, .if_icmp .eq 9, 3), (61, .iload_n 2, 1), (62, .bipush 32, 2), (64, .if_icmp .ne 9, 3), (67, .iinc 1 1, 3), (70, .goto 221, 3), (73, .iload_n 2, 1)]
set_option maxRecDepth 100000 in
theorem dec_X12_cut_0 : dcs cX12_cut DL_X12_cut_0 = true := by decide +kernel
def DL_X12_cut_1 : List (Nat × Instr × Nat) := [(74, .invokestatic 195, 3), (77, .ifCond .eq 119, 3), (80, .iconst 0, 1), (81, .istore_n 3, 1), (82, .lconst 0, 1), (83, .lstore 4, 2), (85, .aload_n 0, 1), (86, .iload_n 1, 1), (87, .iload_n 3, 1), (88, .iadd, 1), (89, .invokevirtual 187, 3), (92, .invokestatic 195, 3), (95, .ifCond .eq 29, 3), (98, .iload_n 3, 1), (99, .bipush 8, 2), (101, .if_icmp .ge 17, 3), (104, .lload 4, 2), (106, .aload_n 0, 1), (107, .iload_n 1, 1), (108, .iload_n 3, 1), (109, .iadd, 1), (110, .invokevirtual 187, 3), (113, .invokestatic 180, 3), (116, .lstore 4, 2), (118, .iinc 3 1, 3), (121, .goto (-36), 3), (124, .iload_n 3, 1), (125, .bipush 8, 2), (127, .if_icmp .le 7, 3), (130, .iconst 3, 1), (131, .goto 4, 3), (134, .iconst 1, 1), (135, .istore 6, 2), (137, .iload_n 3, 1), (138, .bipush 7, 2), (140, .if_icmp .gt 39, 3), (143, .iconst 0, 1), (144, .istore 7, 2), (146, .iload 7, 2), (148, .bipush 19, 2)]
set_option maxRecDepth 100000 in
theorem dec_X12_cut_1 : dcs cX12_cut DL_X12_cut_1 = true := by decide +kernel
def DL_X12_cut_2 : List (Nat × Instr × Nat) := [(150, .if_icmp .ge 29, 3), (153, .aload_n 0, 1), (154, .getfield 34, 3), (157, .iload 7, 2), (159, .laload, 1), (160, .lload 4, 2), (162, .lcmp, 1), (163, .ifCond .ne 10, 3), (166, .bipush 20, 2), (168, .iload 7, 2), (170, .iadd, 1), (171, .istore 6, 2), (173, .iinc 7 1, 3), (176, .goto (-30), 3), (179, .aload_n 0, 1), (180, .iload 6, 2), (182, .iload_n 1, 1), (183, .iconst 0, 1), (184, .lload 4, 2), (186, .invokevirtual 191, 3), (189, .iload_n 1, 1), (190, .iload_n 3, 1), (191, .iadd, 1), (192, .istore_n 1, 1), (193, .goto 98, 3), (196, .iload_n 2, 1), (197, .invokestatic 199, 3), (200, .ifCond .eq 75, 3), (203, .iconst 0, 1), (204, .istore_n 3, 1), (205, .iconst 0, 1), (206, .istore 4, 2), (208, .aload_n 0, 1), (209, .iload_n 1, 1), (210, .iload_n 3, 1), (211, .iadd, 1), (212, .invokevirtual 187, 3), (215, .invokestatic 199, 3), (218, .ifCond .eq 32, 3), (221, .iload_n 3, 1)]
set_option maxRecDepth 100000 in
theorem dec_X12_cut_2 : dcs cX12_cut DL_X12_cut_2 = true := by decide +kernel
def DL_X12_cut_3 : List (Nat × Instr × Nat) := [(222, .iconst 4, 1), (223, .if_icmp .ge 21, 3), (226, .bipush 10, 2), (228, .iload 4, 2), (230, .imul, 1), (231, .aload_n 0, 1), (232, .iload_n 1, 1), (233, .iload_n 3, 1), (234, .iadd, 1), (235, .invokevirtual 187, 3), (238, .iadd, 1), (239, .bipush 48, 2), (241, .isub, 1), (242, .istore 4, 2), (244, .iinc 3 1, 3), (247, .goto (-39), 3), (250, .aload_n 0, 1), (251, .iload_n 3, 1), (252, .iconst 4, 1), (253, .if_icmp .le 7, 3), (256, .iconst 3, 1), (257, .goto 4, 3), (260, .iconst 2, 1), (261, .iload_n 1, 1), (262, .iload 4, 2), (264, .lconst 0, 1), (265, .invokevirtual 191, 3), (268, .iload_n 1, 1), (269, .iload_n 3, 1), (270, .iadd, 1), (271, .istore_n 1, 1), (272, .goto 19, 3), (275, .iload_n 1, 1), (276, .aload_n 0, 1), (277, .iload_n 1, 1), (278, .iload_n 2, 1), (279, .aload_n 0, 1), (280, .iload_n 1, 1), (281, .iconst 1, 1), (282, .iadd, 1)]
set_option maxRecDepth 100000 in
theorem dec_X12_cut_3 : dcs cX12_cut DL_X12_cut_3 = true := by decide +kernel
def DL_X12_cut_4 : List (Nat × Instr × Nat) := [(283, .invokevirtual 187, 3), (286, .invokevirtual 202, 3), (289, .iadd, 1), (290, .istore_n 1, 1), (291, .goto (-284), 3), (294, .return_, 1)]
set_option maxRecDepth 100000 in
theorem dec_X12_cut_4 : dcs cX12_cut DL_X12_cut_4 = true := by decide +kernel
theorem lb_X12_cut : lkB yX12_cut cX12_cut 8 (none) 0 := ⟨q_1235, q_14, ⟨by decide, by decide⟩, by decide +kernel⟩
theorem lv_X12_cut : lkV yX12_cut := ⟨q_1234, qs_68⟩
def F_X12_cut_291 (a0 : Nat) (l1 : Int32) (σ : hSt) : Option ((Int32 × hSt) ⊕ (hSt)) :=
some (.inl (l1, σ))
def F_X12_cut_67 (a0 : Nat) (l1 : Int32) (σ : hSt) : Option ((Int32 × hSt) ⊕ (hSt)) :=
cL (l1 + (1 : Int32)) fun v1 =>
F_X12_cut_291 a0 v1 σ
def F_X12_cut_118 (a0 : Nat) (l1 : Int32) (l3 : Int32) (l4 : Int64) (σ : hSt) : Option ((Int32 × Int64) ⊕ ((Int32 × hSt) ⊕ (hSt))) :=
cL (l3 + (1 : Int32)) fun v2 =>
some (.inl (v2, l4))
def F_X12_cut_173 (a0 : Nat) (l1 : Int32) (l3 : Int32) (l4 : Int64) (l6 : Int32) (l7 : Int32) (σ : hSt) : Option ((Int32 × Int32) ⊕ ((Int32 × hSt) ⊕ (hSt))) :=
cL (l7 + (1 : Int32)) fun v3 =>
some (.inl (l6, v3))
def F_X12_cut_179 (a0 : Nat) (l1 : Int32) (l3 : Int32) (l4 : Int64) (l6 : Int32) (σ : hSt) : Option ((Int32 × hSt) ⊕ (hSt)) :=
(F_X12_token a0 l6 l1 (0 : Int32) l4 σ).bind fun σ5 =>
cL (l1 + l3) fun v6 =>
F_X12_cut_291 a0 v6 σ5
def F_X12_cut_146b (a0 : Nat) (l1 : Int32) (l3 : Int32) (l4 : Int64) (l6 : Int32) (l7 : Int32) (σ : hSt) : Option ((Int32 × Int32) ⊕ ((Int32 × hSt) ⊕ (hSt))) :=
if (19 : Int32) ≤ l7 then (
(F_X12_cut_179 a0 l1 l3 l4 l6 σ).map (fun x => .inr (x))) else (
cR (σ.2.2 a0 9) (okr kM NM 103) fun z7 =>
cG (inb l7 (kM z7).2) <|
if (lg_cmp (σ.2.1 z7 l7.toNatClampNeg) l4) = 0 then (
cL ((20 : Int32) + l7) fun v9 =>
F_X12_cut_173 a0 l1 l3 l4 v9 l7 σ) else (
F_X12_cut_173 a0 l1 l3 l4 l6 l7 σ))
def S_X12_cut_146 (a0 : Nat) (l1 : Int32) (l3 : Int32) (l4 : Int64) (σ : hSt) (v : Int32 × Int32) : Option ((Int32 × Int32) ⊕ ((Int32 × hSt) ⊕ (hSt))) := F_X12_cut_146b a0 l1 l3 l4 v.1 v.2 σ
def F_X12_cut_146 (a0 : Nat) (l1 : Int32) (l3 : Int32) (l4 : Int64) (l6 : Int32) (l7 : Int32) (σ : hSt) : Option ((Int32 × hSt) ⊕ (hSt)) := lp (S_X12_cut_146 a0 l1 l3 l4 σ) fuel (l6, l7)
def F_X12_cut_135 (a0 : Nat) (l1 : Int32) (l3 : Int32) (l4 : Int64) (s0 : Int32) (σ : hSt) : Option ((Int32 × hSt) ⊕ (hSt)) :=
if (7 : Int32) < l3 then (
F_X12_cut_179 a0 l1 l3 l4 s0 σ) else (
F_X12_cut_146 a0 l1 l3 l4 s0 (0 : Int32) σ)
def F_X12_cut_85b (a0 : Nat) (l1 : Int32) (l3 : Int32) (l4 : Int64) (σ : hSt) : Option ((Int32 × Int64) ⊕ ((Int32 × hSt) ⊕ (hSt))) :=
(F_X12_byteAt a0 (l1 + l3) σ).bind fun v11 =>
(F_X12_isLetter v11 σ).bind fun v13 =>
if v13 = 0 then (
if l3 ≤ (8 : Int32) then (
(F_X12_cut_135 a0 l1 l3 l4 (1 : Int32) σ).map (fun x => .inr (x))) else (
(F_X12_cut_135 a0 l1 l3 l4 (3 : Int32) σ).map (fun x => .inr (x)))) else (
if (8 : Int32) ≤ l3 then (
F_X12_cut_118 a0 l1 l3 l4 σ) else (
(F_X12_byteAt a0 (l1 + l3) σ).bind fun v15 =>
(F_X12_appends l4 v15 σ).bind fun v17 =>
F_X12_cut_118 a0 l1 l3 v17 σ))
def S_X12_cut_85 (a0 : Nat) (l1 : Int32) (σ : hSt) (v : Int32 × Int64) : Option ((Int32 × Int64) ⊕ ((Int32 × hSt) ⊕ (hSt))) := F_X12_cut_85b a0 l1 v.1 v.2 σ
def F_X12_cut_85 (a0 : Nat) (l1 : Int32) (l3 : Int32) (l4 : Int64) (σ : hSt) : Option ((Int32 × hSt) ⊕ (hSt)) := lp (S_X12_cut_85 a0 l1 σ) fuel (l3, l4)
def F_X12_cut_244 (a0 : Nat) (l1 : Int32) (l3 : Int32) (l4 : Int32) (σ : hSt) : Option ((Int32 × Int32) ⊕ ((Int32 × hSt) ⊕ (hSt))) :=
cL (l3 + (1 : Int32)) fun v18 =>
some (.inl (v18, l4))
def F_X12_cut_261 (a0 : Nat) (l1 : Int32) (l3 : Int32) (l4 : Int32) (s0 : Nat) (s1 : Int32) (σ : hSt) : Option ((Int32 × hSt) ⊕ (hSt)) :=
(F_X12_token s0 s1 l1 l4 (0 : Int64) σ).bind fun σ20 =>
cL (l1 + l3) fun v21 =>
F_X12_cut_291 a0 v21 σ20
def F_X12_cut_208b (a0 : Nat) (l1 : Int32) (l3 : Int32) (l4 : Int32) (σ : hSt) : Option ((Int32 × Int32) ⊕ ((Int32 × hSt) ⊕ (hSt))) :=
(F_X12_byteAt a0 (l1 + l3) σ).bind fun v23 =>
(F_X12_isDigit v23 σ).bind fun v25 =>
if v25 = 0 then (
if l3 ≤ (4 : Int32) then (
(F_X12_cut_261 a0 l1 l3 l4 a0 (2 : Int32) σ).map (fun x => .inr (x))) else (
(F_X12_cut_261 a0 l1 l3 l4 a0 (3 : Int32) σ).map (fun x => .inr (x)))) else (
if (4 : Int32) ≤ l3 then (
F_X12_cut_244 a0 l1 l3 l4 σ) else (
(F_X12_byteAt a0 (l1 + l3) σ).bind fun v27 =>
cL ((((10 : Int32) * l4) + v27) - (48 : Int32)) fun v28 =>
F_X12_cut_244 a0 l1 l3 v28 σ))
def S_X12_cut_208 (a0 : Nat) (l1 : Int32) (σ : hSt) (v : Int32 × Int32) : Option ((Int32 × Int32) ⊕ ((Int32 × hSt) ⊕ (hSt))) := F_X12_cut_208b a0 l1 v.1 v.2 σ
def F_X12_cut_208 (a0 : Nat) (l1 : Int32) (l3 : Int32) (l4 : Int32) (σ : hSt) : Option ((Int32 × hSt) ⊕ (hSt)) := lp (S_X12_cut_208 a0 l1 σ) fuel (l3, l4)
def F_X12_cut_7b (a0 : Nat) (l1 : Int32) (σ : hSt) : Option ((Int32 × hSt) ⊕ (hSt)) :=
if (400 : Int32) < (σ.1 a0 10) then (
some (.inr (σ))) else (
(F_X12_byteAt a0 l1 σ).bind fun v30 =>
if l1 < (σ.1 a0 4) then (
if v30 = (9 : Int32) then (
F_X12_cut_67 a0 l1 σ) else (
if v30 = (10 : Int32) then (
F_X12_cut_67 a0 l1 σ) else (
if v30 = (13 : Int32) then (
F_X12_cut_67 a0 l1 σ) else (
if v30 = (32 : Int32) then (
F_X12_cut_67 a0 l1 σ) else (
(F_X12_isLetter v30 σ).bind fun v32 =>
if v32 = 0 then (
(F_X12_isDigit v30 σ).bind fun v34 =>
if v34 = 0 then (
(F_X12_byteAt a0 (l1 + (1 : Int32)) σ).bind fun v36 =>
cC (F_X12_sign a0 l1 v30 v36 σ) fun v38 σ39 =>
cL (l1 + v38) fun v40 =>
F_X12_cut_291 a0 v40 σ39) else (
F_X12_cut_208 a0 l1 (0 : Int32) (0 : Int32) σ)) else (
F_X12_cut_85 a0 l1 (0 : Int32) (0 : Int64) σ)))))) else (
(F_X12_token a0 (0 : Int32) (σ.1 a0 4) (0 : Int32) (0 : Int64) σ).bind fun σ42 =>
some (.inr (σ42))))
def S_X12_cut_7 (a0 : Nat) (v : Int32 × hSt) : Option ((Int32 × hSt) ⊕ (hSt)) := F_X12_cut_7b a0 v.1 v.2
def F_X12_cut_7 (a0 : Nat) (l1 : Int32) (σ : hSt) : Option (hSt) := lp (S_X12_cut_7 a0) fuel (l1, σ)
def F_X12_cut (a0 : Nat) (σ : hSt) : Option (hSt) :=
cL (uI σ a0 10 (0 : Int32)) fun σ43 =>
F_X12_cut_7 a0 (0 : Int32) σ43
section
variable {p : Program} {l : Launch} {e : Env} {s : State} {m : MethodId} {args : Array Value} {below : List Frame} {meth : Method} {c : Code} {D : va_G} {ay : Nat → ClassId} {ad : Nat → Nat}
set_option maxRecDepth 100000 in
set_option maxHeartbeats 4000000 in
theorem B_X12_cut_291 {H : Heap} {locs : List Loc} {ls : Array Slot} {σ0 : hSt} {o : (Int32 × hSt) ⊕ (hSt)} (a0 : Nat) (l1 : Int32) (σ : hSt) (G : Gx p m c cX12_cut 8 s args RX12 D ay NM ad (aN NM ad)) (hm : meth.sig.returnType = none ∧ meth.locks = false) (ok_a0 : okr kM NM 12 a0 = true) (hf : F_X12_cut_291 a0 l1 σ = some o) (hb0 : ∀ (v : Int32 × hSt), o = .inl v → ∀ (H : Heap) (locs : List Loc) (ls : Array Slot), Wd D ay kM NM ad (aN NM ad) s v.2 H locs → lv_has ls 8 [(0, .ref (ad a0)), (1, .int v.1)] → W p l e (rmK 2 49) s m args below meth c H locs 0 0 (MQ below (cV D ay kM NM ad σ0) args s 0 0 (aN NM ad)) (F0 m 7 ls [])) (hr : ∀ x, o = .inr (x) → x = σ0) (w : Wd D ay kM NM ad (aN NM ad) s σ H locs) (hl : lv_has ls 8 [(0, .ref (ad a0)), (1, .int l1)]) : W p l e (rmK 2 49) s m args below meth c H locs 0 0 (MQ below (cV D ay kM NM ad σ0) args s 0 0 (aN NM ad)) (F0 m 291 ls []) := by
  have k_a0 := okr_in ok_a0
  unfold F_X12_cut_291 at hf
  refine lv_goto (tgt := 7) G.hx G.hb (dcs_get dec_X12_cut_4 4 rfl) (by decide) ?_
  exact hb0 _ (Option.some.inj hf).symm _ _ _ w (lv_sub hl [0, 1] rfl)
set_option maxRecDepth 100000 in
set_option maxHeartbeats 4000000 in
theorem B_X12_cut_67 {H : Heap} {locs : List Loc} {ls : Array Slot} {σ0 : hSt} {o : (Int32 × hSt) ⊕ (hSt)} (a0 : Nat) (l1 : Int32) (σ : hSt) (G : Gx p m c cX12_cut 8 s args RX12 D ay NM ad (aN NM ad)) (hm : meth.sig.returnType = none ∧ meth.locks = false) (ok_a0 : okr kM NM 12 a0 = true) (hf : F_X12_cut_67 a0 l1 σ = some o) (hb0 : ∀ (v : Int32 × hSt), o = .inl v → ∀ (H : Heap) (locs : List Loc) (ls : Array Slot), Wd D ay kM NM ad (aN NM ad) s v.2 H locs → lv_has ls 8 [(0, .ref (ad a0)), (1, .int v.1)] → W p l e (rmK 2 49) s m args below meth c H locs 0 0 (MQ below (cV D ay kM NM ad σ0) args s 0 0 (aN NM ad)) (F0 m 7 ls [])) (hr : ∀ x, o = .inr (x) → x = σ0) (w : Wd D ay kM NM ad (aN NM ad) s σ H locs) (hl : lv_has ls 8 [(0, .ref (ad a0)), (1, .int l1)]) : W p l e (rmK 2 49) s m args below meth c H locs 0 0 (MQ below (cV D ay kM NM ad σ0) args s 0 0 (aN NM ad)) (F0 m 67 ls []) := by
  have k_a0 := okr_in ok_a0
  unfold F_X12_cut_67 at hf
  obtain ⟨v1, e_v1, hf⟩ := cL_some hf
  refine lv_iinc (v := v1) (lv' := [(1, .int v1), (0, .ref (ad a0))]) G.hx G.hb (dcs_get dec_X12_cut_0 37 rfl) hl (k := 1) rfl (by rw [e_v1]; rfl) (by decide) rfl (fun ls hl => ?_)
  refine lv_goto (tgt := 291) G.hx G.hb (dcs_get dec_X12_cut_0 38 rfl) (by decide) ?_
  exact B_X12_cut_291 a0 v1 σ G hm ok_a0 hf hb0 hr w (lv_sub hl [1, 0] rfl)
set_option maxRecDepth 100000 in
set_option maxHeartbeats 4000000 in
theorem B_X12_cut_118 {H : Heap} {locs : List Loc} {ls : Array Slot} {σ0 : hSt} {o : (Int32 × Int64) ⊕ ((Int32 × hSt) ⊕ (hSt))} (a0 : Nat) (l1 : Int32) (l3 : Int32) (l4 : Int64) (σ : hSt) (G : Gx p m c cX12_cut 8 s args RX12 D ay NM ad (aN NM ad)) (hm : meth.sig.returnType = none ∧ meth.locks = false) (ok_a0 : okr kM NM 12 a0 = true) (hf : F_X12_cut_118 a0 l1 l3 l4 σ = some o) (hb0 : ∀ (v : Int32 × hSt), o = .inr (.inl v) → ∀ (H : Heap) (locs : List Loc) (ls : Array Slot), Wd D ay kM NM ad (aN NM ad) s v.2 H locs → lv_has ls 8 [(0, .ref (ad a0)), (1, .int v.1)] → W p l e (rmK 2 49) s m args below meth c H locs 0 0 (MQ below (cV D ay kM NM ad σ0) args s 0 0 (aN NM ad)) (F0 m 7 ls [])) (hb1 : ∀ (v : Int32 × Int64), o = .inl v → ∀ (H : Heap) (locs : List Loc) (ls : Array Slot), Wd D ay kM NM ad (aN NM ad) s σ H locs → lv_has ls 8 [(0, .ref (ad a0)), (1, .int l1), (3, .int v.1), (4, .long v.2)] → W p l e (rmK 2 49) s m args below meth c H locs 0 0 (MQ below (cV D ay kM NM ad σ0) args s 0 0 (aN NM ad)) (F0 m 85 ls [])) (hr : ∀ x, o = .inr (.inr (x)) → x = σ0) (w : Wd D ay kM NM ad (aN NM ad) s σ H locs) (hl : lv_has ls 8 [(0, .ref (ad a0)), (1, .int l1), (3, .int l3), (4, .long l4)]) : W p l e (rmK 2 49) s m args below meth c H locs 0 0 (MQ below (cV D ay kM NM ad σ0) args s 0 0 (aN NM ad)) (F0 m 118 ls []) := by
  have k_a0 := okr_in ok_a0
  unfold F_X12_cut_118 at hf
  obtain ⟨v2, e_v2, hf⟩ := cL_some hf
  refine lv_iinc (v := v2) (lv' := [(3, .int v2), (0, .ref (ad a0)), (1, .int l1), (4, .long l4)]) G.hx G.hb (dcs_get dec_X12_cut_1 24 rfl) hl (k := 2) rfl (by rw [e_v2]; rfl) (by decide) rfl (fun ls hl => ?_)
  refine lv_goto (tgt := 85) G.hx G.hb (dcs_get dec_X12_cut_1 25 rfl) (by decide) ?_
  exact hb1 _ (Option.some.inj hf).symm _ _ _ w (lv_sub hl [1, 2, 0, 3] rfl)
set_option maxRecDepth 100000 in
set_option maxHeartbeats 4000000 in
theorem B_X12_cut_173 {H : Heap} {locs : List Loc} {ls : Array Slot} {σ0 : hSt} {o : (Int32 × Int32) ⊕ ((Int32 × hSt) ⊕ (hSt))} (a0 : Nat) (l1 : Int32) (l3 : Int32) (l4 : Int64) (l6 : Int32) (l7 : Int32) (σ : hSt) (G : Gx p m c cX12_cut 8 s args RX12 D ay NM ad (aN NM ad)) (hm : meth.sig.returnType = none ∧ meth.locks = false) (ok_a0 : okr kM NM 12 a0 = true) (hf : F_X12_cut_173 a0 l1 l3 l4 l6 l7 σ = some o) (hb0 : ∀ (v : Int32 × hSt), o = .inr (.inl v) → ∀ (H : Heap) (locs : List Loc) (ls : Array Slot), Wd D ay kM NM ad (aN NM ad) s v.2 H locs → lv_has ls 8 [(0, .ref (ad a0)), (1, .int v.1)] → W p l e (rmK 2 49) s m args below meth c H locs 0 0 (MQ below (cV D ay kM NM ad σ0) args s 0 0 (aN NM ad)) (F0 m 7 ls [])) (hb1 : ∀ (v : Int32 × Int32), o = .inl v → ∀ (H : Heap) (locs : List Loc) (ls : Array Slot), Wd D ay kM NM ad (aN NM ad) s σ H locs → lv_has ls 8 [(0, .ref (ad a0)), (1, .int l1), (3, .int l3), (4, .long l4), (6, .int v.1), (7, .int v.2)] → W p l e (rmK 2 49) s m args below meth c H locs 0 0 (MQ below (cV D ay kM NM ad σ0) args s 0 0 (aN NM ad)) (F0 m 146 ls [])) (hr : ∀ x, o = .inr (.inr (x)) → x = σ0) (w : Wd D ay kM NM ad (aN NM ad) s σ H locs) (hl : lv_has ls 8 [(0, .ref (ad a0)), (1, .int l1), (3, .int l3), (4, .long l4), (6, .int l6), (7, .int l7)]) : W p l e (rmK 2 49) s m args below meth c H locs 0 0 (MQ below (cV D ay kM NM ad σ0) args s 0 0 (aN NM ad)) (F0 m 173 ls []) := by
  have k_a0 := okr_in ok_a0
  unfold F_X12_cut_173 at hf
  obtain ⟨v3, e_v3, hf⟩ := cL_some hf
  refine lv_iinc (v := v3) (lv' := [(7, .int v3), (0, .ref (ad a0)), (1, .int l1), (3, .int l3), (4, .long l4), (6, .int l6)]) G.hx G.hb (dcs_get dec_X12_cut_2 12 rfl) hl (k := 5) rfl (by rw [e_v3]; rfl) (by decide) rfl (fun ls hl => ?_)
  refine lv_goto (tgt := 146) G.hx G.hb (dcs_get dec_X12_cut_2 13 rfl) (by decide) ?_
  exact hb1 _ (Option.some.inj hf).symm _ _ _ w (lv_sub hl [1, 2, 3, 4, 5, 0] rfl)
set_option maxRecDepth 100000 in
set_option maxHeartbeats 4000000 in
theorem B_X12_cut_179 {H : Heap} {locs : List Loc} {ls : Array Slot} {σ0 : hSt} {o : (Int32 × hSt) ⊕ (hSt)} (a0 : Nat) (l1 : Int32) (l3 : Int32) (l4 : Int64) (l6 : Int32) (σ : hSt) (G : Gx p m c cX12_cut 8 s args RX12 D ay NM ad (aN NM ad)) (hm : meth.sig.returnType = none ∧ meth.locks = false) (ok_a0 : okr kM NM 12 a0 = true) (hf : F_X12_cut_179 a0 l1 l3 l4 l6 σ = some o) (hb0 : ∀ (v : Int32 × hSt), o = .inl v → ∀ (H : Heap) (locs : List Loc) (ls : Array Slot), Wd D ay kM NM ad (aN NM ad) s v.2 H locs → lv_has ls 8 [(0, .ref (ad a0)), (1, .int v.1)] → W p l e (rmK 2 49) s m args below meth c H locs 0 0 (MQ below (cV D ay kM NM ad σ0) args s 0 0 (aN NM ad)) (F0 m 7 ls [])) (hr : ∀ x, o = .inr (x) → x = σ0) (w : Wd D ay kM NM ad (aN NM ad) s σ H locs) (hl : lv_has ls 8 [(0, .ref (ad a0)), (1, .int l1), (3, .int l3), (4, .long l4), (6, .int l6)]) : W p l e (rmK 2 49) s m args below meth c H locs 0 0 (MQ below (cV D ay kM NM ad σ0) args s 0 0 (aN NM ad)) (F0 m 179 ls []) := by
  have k_a0 := okr_in ok_a0
  unfold F_X12_cut_179 at hf
  refine lv_aload_n G.hx G.hb (dcs_get dec_X12_cut_2 14 rfl) rfl (lv_at hl 0 rfl) ?_
  refine lv_iload G.hx G.hb (dcs_get dec_X12_cut_2 15 rfl) (lv_at hl 4 rfl) ?_
  refine lv_iload_n G.hx G.hb (dcs_get dec_X12_cut_2 16 rfl) rfl (lv_at hl 1 rfl) ?_
  refine lv_iconst (v := (0 : Int32)) G.hx G.hb (dcs_get dec_X12_cut_2 17 rfl) (by decide) ?_
  refine lv_lload G.hx G.hb (dcs_get dec_X12_cut_2 18 rfl) (lv_at hl 3 rfl) ?_
  obtain ⟨σ5, h4, hf⟩ := cB_some hf
  refine a_v (k_V (As := [.int l6, .int l1, .int (0 : Int32), .long l4]) (rest := []) cls12 lb_X12_token lv_X12_token q_1240 (C_X12_token G.2.2.1 a0 l6 l1 (0 : Int32) l4 σ h4 ok_a0) ⟨(Nat.le_of_ble_eq_true rfl), (Nat.le_of_ble_eq_true rfl)⟩ G w k_a0.1 k_a0.2 rfl rfl hl.1 (Nat.le_of_ble_eq_true rfl) (dcs_get dec_X12_cut_2 19 rfl) ⟨Nat.le_refl _, Nat.le_refl _⟩) G w (fun H locs w => ?_)
  refine lv_iload_n G.hx G.hb (dcs_get dec_X12_cut_2 20 rfl) rfl (lv_at hl 1 rfl) ?_
  refine lv_iload_n G.hx G.hb (dcs_get dec_X12_cut_2 21 rfl) rfl (lv_at hl 2 rfl) ?_
  refine lv_iadd G.hx G.hb (dcs_get dec_X12_cut_2 22 rfl) ?_
  obtain ⟨v6, e_v6, hf⟩ := cL_some hf
  refine r_topi e_v6 ?_
  refine lv_istore_n (lv' := [(1, .int v6), (0, .ref (ad a0)), (3, .int l3), (4, .long l4), (6, .int l6)]) G.hx G.hb (dcs_get dec_X12_cut_2 23 rfl) rfl hl (by decide) rfl (fun ls hl => ?_)
  refine lv_goto (tgt := 291) G.hx G.hb (dcs_get dec_X12_cut_2 24 rfl) (by decide) ?_
  exact B_X12_cut_291 a0 v6 σ5 G hm ok_a0 hf hb0 hr w (lv_sub hl [1, 0] rfl)
set_option maxRecDepth 100000 in
set_option maxHeartbeats 4000000 in
theorem B_X12_cut_146b {H : Heap} {locs : List Loc} {ls : Array Slot} {σ0 : hSt} {o : (Int32 × Int32) ⊕ ((Int32 × hSt) ⊕ (hSt))} (a0 : Nat) (l1 : Int32) (l3 : Int32) (l4 : Int64) (l6 : Int32) (l7 : Int32) (σ : hSt) (G : Gx p m c cX12_cut 8 s args RX12 D ay NM ad (aN NM ad)) (hm : meth.sig.returnType = none ∧ meth.locks = false) (ok_a0 : okr kM NM 12 a0 = true) (hf : F_X12_cut_146b a0 l1 l3 l4 l6 l7 σ = some o) (hb0 : ∀ (v : Int32 × hSt), o = .inr (.inl v) → ∀ (H : Heap) (locs : List Loc) (ls : Array Slot), Wd D ay kM NM ad (aN NM ad) s v.2 H locs → lv_has ls 8 [(0, .ref (ad a0)), (1, .int v.1)] → W p l e (rmK 2 49) s m args below meth c H locs 0 0 (MQ below (cV D ay kM NM ad σ0) args s 0 0 (aN NM ad)) (F0 m 7 ls [])) (hb1 : ∀ (v : Int32 × Int32), o = .inl v → ∀ (H : Heap) (locs : List Loc) (ls : Array Slot), Wd D ay kM NM ad (aN NM ad) s σ H locs → lv_has ls 8 [(0, .ref (ad a0)), (1, .int l1), (3, .int l3), (4, .long l4), (6, .int v.1), (7, .int v.2)] → W p l e (rmK 2 49) s m args below meth c H locs 0 0 (MQ below (cV D ay kM NM ad σ0) args s 0 0 (aN NM ad)) (F0 m 146 ls [])) (hr : ∀ x, o = .inr (.inr (x)) → x = σ0) (w : Wd D ay kM NM ad (aN NM ad) s σ H locs) (hl : lv_has ls 8 [(0, .ref (ad a0)), (1, .int l1), (3, .int l3), (4, .long l4), (6, .int l6), (7, .int l7)]) : W p l e (rmK 2 49) s m args below meth c H locs 0 0 (MQ below (cV D ay kM NM ad σ0) args s 0 0 (aN NM ad)) (F0 m 146 ls []) := by
  have k_a0 := okr_in ok_a0
  unfold F_X12_cut_146b at hf
  refine lv_iload G.hx G.hb (dcs_get dec_X12_cut_1 38 rfl) (lv_at hl 5 rfl) ?_
  refine lv_bipush (v := (19 : Int32)) G.hx G.hb (dcs_get dec_X12_cut_1 39 rfl) (by decide) ?_
  refine lv_icmp_ge (tgt := 179) G.hx G.hb (dcs_get dec_X12_cut_2 0 rfl) (by decide) (fun hc => ?_) (fun hc => ?_)
  · rw [if_pos hc] at hf
    obtain ⟨x9, h9, e9⟩ := map_some_inv hf
    subst e9
    exact B_X12_cut_179 a0 l1 l3 l4 l6 σ G hm ok_a0 h9 (fun v e => hb0 v (by rw [e])) (fun x e => hr x (by rw [e])) w (lv_sub hl [0, 1, 2, 3, 4] rfl)
  · rw [if_neg hc] at hf
    refine lv_aload_n G.hx G.hb (dcs_get dec_X12_cut_2 1 rfl) rfl (lv_at hl 0 rfl) ?_
    obtain ⟨z7, e_z7, ok_z7, hf⟩ := cR_some hf
    have k_z7 := okr_in ok_z7
    refine r_getr (k := 9) cls12 fi_12_9.1 fi_12_9.2 q_1017 G w k_a0.1 k_a0.2 e_z7 (dcs_get dec_X12_cut_2 2 rfl) ?_
    refine lv_iload G.hx G.hb (dcs_get dec_X12_cut_2 3 rfl) (lv_at hl 5 rfl) ?_
    obtain ⟨h8, hf⟩ := cG_some hf
    refine r_lald G w k_z7.1 k_z7.2 h8 (dcs_get dec_X12_cut_2 4 rfl) ?_
    refine lv_lload G.hx G.hb (dcs_get dec_X12_cut_2 5 rfl) (lv_at hl 3 rfl) ?_
    refine W.lcmp G.hx G.hb (dcs_get dec_X12_cut_2 6 rfl) ?_
    refine lv_if_ne (tgt := 173) G.hx G.hb (dcs_get dec_X12_cut_2 7 rfl) (by decide) (fun hc => ?_) (fun hc => ?_)
    · rw [if_neg hc] at hf
      exact B_X12_cut_173 a0 l1 l3 l4 l6 l7 σ G hm ok_a0 hf hb0 hb1 hr w (lv_sub hl [0, 1, 2, 3, 4, 5] rfl)
    · rw [if_pos hc] at hf
      refine lv_bipush (v := (20 : Int32)) G.hx G.hb (dcs_get dec_X12_cut_2 8 rfl) (by decide) ?_
      refine lv_iload G.hx G.hb (dcs_get dec_X12_cut_2 9 rfl) (lv_at hl 5 rfl) ?_
      refine lv_iadd G.hx G.hb (dcs_get dec_X12_cut_2 10 rfl) ?_
      obtain ⟨v9, e_v9, hf⟩ := cL_some hf
      refine r_topi e_v9 ?_
      refine lv_istore (lv' := [(6, .int v9), (0, .ref (ad a0)), (1, .int l1), (3, .int l3), (4, .long l4), (7, .int l7)]) G.hx G.hb (dcs_get dec_X12_cut_2 11 rfl) hl (by decide) rfl (fun ls hl => ?_)
      exact B_X12_cut_173 a0 l1 l3 l4 v9 l7 σ G hm ok_a0 hf hb0 hb1 hr w (lv_sub hl [1, 2, 3, 4, 0, 5] rfl)
set_option maxRecDepth 100000 in
set_option maxHeartbeats 4000000 in
theorem H_X12_cut_146 {σ0 : hSt} {o : (Int32 × hSt) ⊕ (hSt)} (a0 : Nat) (l1 : Int32) (l3 : Int32) (l4 : Int64) (σ : hSt) (G : Gx p m c cX12_cut 8 s args RX12 D ay NM ad (aN NM ad)) (hm : meth.sig.returnType = none ∧ meth.locks = false) (ok_a0 : okr kM NM 12 a0 = true) (hb0 : ∀ (v : Int32 × hSt), o = .inl v → ∀ (H : Heap) (locs : List Loc) (ls : Array Slot), Wd D ay kM NM ad (aN NM ad) s v.2 H locs → lv_has ls 8 [(0, .ref (ad a0)), (1, .int v.1)] → W p l e (rmK 2 49) s m args below meth c H locs 0 0 (MQ below (cV D ay kM NM ad σ0) args s 0 0 (aN NM ad)) (F0 m 7 ls [])) (hr : ∀ x, o = .inr (x) → x = σ0) : ∀ (k : Nat) (v : Int32 × Int32), lp (S_X12_cut_146 a0 l1 l3 l4 σ) k v = some o → ∀ (H : Heap) (locs : List Loc) (ls : Array Slot), Wd D ay kM NM ad (aN NM ad) s σ H locs → lv_has ls 8 [(0, .ref (ad a0)), (1, .int l1), (3, .int l3), (4, .long l4), (6, .int v.1), (7, .int v.2)] → W p l e (rmK 2 49) s m args below meth c H locs 0 0 (MQ below (cV D ay kM NM ad σ0) args s 0 0 (aN NM ad)) (F0 m 146 ls []) := by
  intro k
  induction k with
  | zero => intro v hf; cases hf
  | succ k ih =>
    intro v hf H locs ls w hl
    obtain ⟨o1, h1, h2, h3⟩ := lp_some hf
    exact B_X12_cut_146b a0 l1 l3 l4 v.1 v.2 σ G hm ok_a0 h1 (fun v' e => hb0 v' (h3 _ e).symm) (fun v' e => ih v' (h2 v' e)) (fun x e => hr x (h3 _ e).symm) w hl
set_option maxRecDepth 100000 in
set_option maxHeartbeats 4000000 in
theorem B_X12_cut_146 {H : Heap} {locs : List Loc} {ls : Array Slot} {σ0 : hSt} {o : (Int32 × hSt) ⊕ (hSt)} (a0 : Nat) (l1 : Int32) (l3 : Int32) (l4 : Int64) (l6 : Int32) (l7 : Int32) (σ : hSt) (G : Gx p m c cX12_cut 8 s args RX12 D ay NM ad (aN NM ad)) (hm : meth.sig.returnType = none ∧ meth.locks = false) (ok_a0 : okr kM NM 12 a0 = true) (hf : F_X12_cut_146 a0 l1 l3 l4 l6 l7 σ = some o) (hb0 : ∀ (v : Int32 × hSt), o = .inl v → ∀ (H : Heap) (locs : List Loc) (ls : Array Slot), Wd D ay kM NM ad (aN NM ad) s v.2 H locs → lv_has ls 8 [(0, .ref (ad a0)), (1, .int v.1)] → W p l e (rmK 2 49) s m args below meth c H locs 0 0 (MQ below (cV D ay kM NM ad σ0) args s 0 0 (aN NM ad)) (F0 m 7 ls [])) (hr : ∀ x, o = .inr (x) → x = σ0) (w : Wd D ay kM NM ad (aN NM ad) s σ H locs) (hl : lv_has ls 8 [(0, .ref (ad a0)), (1, .int l1), (3, .int l3), (4, .long l4), (6, .int l6), (7, .int l7)]) : W p l e (rmK 2 49) s m args below meth c H locs 0 0 (MQ below (cV D ay kM NM ad σ0) args s 0 0 (aN NM ad)) (F0 m 146 ls []) := by
  unfold F_X12_cut_146 at hf
  exact H_X12_cut_146 a0 l1 l3 l4 σ G hm ok_a0 hb0 hr fuel (l6, l7) hf _ _ _ w hl
set_option maxRecDepth 100000 in
set_option maxHeartbeats 4000000 in
theorem B_X12_cut_135 {H : Heap} {locs : List Loc} {ls : Array Slot} {σ0 : hSt} {o : (Int32 × hSt) ⊕ (hSt)} (a0 : Nat) (l1 : Int32) (l3 : Int32) (l4 : Int64) (s0 : Int32) (σ : hSt) (G : Gx p m c cX12_cut 8 s args RX12 D ay NM ad (aN NM ad)) (hm : meth.sig.returnType = none ∧ meth.locks = false) (ok_a0 : okr kM NM 12 a0 = true) (hf : F_X12_cut_135 a0 l1 l3 l4 s0 σ = some o) (hb0 : ∀ (v : Int32 × hSt), o = .inl v → ∀ (H : Heap) (locs : List Loc) (ls : Array Slot), Wd D ay kM NM ad (aN NM ad) s v.2 H locs → lv_has ls 8 [(0, .ref (ad a0)), (1, .int v.1)] → W p l e (rmK 2 49) s m args below meth c H locs 0 0 (MQ below (cV D ay kM NM ad σ0) args s 0 0 (aN NM ad)) (F0 m 7 ls [])) (hr : ∀ x, o = .inr (x) → x = σ0) (w : Wd D ay kM NM ad (aN NM ad) s σ H locs) (hl : lv_has ls 8 [(0, .ref (ad a0)), (1, .int l1), (3, .int l3), (4, .long l4)]) : W p l e (rmK 2 49) s m args below meth c H locs 0 0 (MQ below (cV D ay kM NM ad σ0) args s 0 0 (aN NM ad)) (F0 m 135 ls [.int s0]) := by
  have k_a0 := okr_in ok_a0
  unfold F_X12_cut_135 at hf
  refine lv_istore (lv' := [(6, .int s0), (0, .ref (ad a0)), (1, .int l1), (3, .int l3), (4, .long l4)]) G.hx G.hb (dcs_get dec_X12_cut_1 32 rfl) hl (by decide) rfl (fun ls hl => ?_)
  refine lv_iload_n G.hx G.hb (dcs_get dec_X12_cut_1 33 rfl) rfl (lv_at hl 3 rfl) ?_
  refine lv_bipush (v := (7 : Int32)) G.hx G.hb (dcs_get dec_X12_cut_1 34 rfl) (by decide) ?_
  refine lv_icmp_gt (tgt := 179) G.hx G.hb (dcs_get dec_X12_cut_1 35 rfl) (by decide) (fun hc => ?_) (fun hc => ?_)
  · rw [if_pos hc] at hf
    exact B_X12_cut_179 a0 l1 l3 l4 s0 σ G hm ok_a0 hf hb0 hr w (lv_sub hl [1, 2, 3, 4, 0] rfl)
  · rw [if_neg hc] at hf
    refine lv_iconst (v := (0 : Int32)) G.hx G.hb (dcs_get dec_X12_cut_1 36 rfl) (by decide) ?_
    refine lv_istore (lv' := [(7, .int (0 : Int32)), (6, .int s0), (0, .ref (ad a0)), (1, .int l1), (3, .int l3), (4, .long l4)]) G.hx G.hb (dcs_get dec_X12_cut_1 37 rfl) hl (by decide) rfl (fun ls hl => ?_)
    exact B_X12_cut_146 a0 l1 l3 l4 s0 (0 : Int32) σ G hm ok_a0 hf hb0 hr w (lv_sub hl [2, 3, 4, 5, 1, 0] rfl)
set_option maxRecDepth 100000 in
set_option maxHeartbeats 4000000 in
theorem B_X12_cut_85b {H : Heap} {locs : List Loc} {ls : Array Slot} {σ0 : hSt} {o : (Int32 × Int64) ⊕ ((Int32 × hSt) ⊕ (hSt))} (a0 : Nat) (l1 : Int32) (l3 : Int32) (l4 : Int64) (σ : hSt) (G : Gx p m c cX12_cut 8 s args RX12 D ay NM ad (aN NM ad)) (hm : meth.sig.returnType = none ∧ meth.locks = false) (ok_a0 : okr kM NM 12 a0 = true) (hf : F_X12_cut_85b a0 l1 l3 l4 σ = some o) (hb0 : ∀ (v : Int32 × hSt), o = .inr (.inl v) → ∀ (H : Heap) (locs : List Loc) (ls : Array Slot), Wd D ay kM NM ad (aN NM ad) s v.2 H locs → lv_has ls 8 [(0, .ref (ad a0)), (1, .int v.1)] → W p l e (rmK 2 49) s m args below meth c H locs 0 0 (MQ below (cV D ay kM NM ad σ0) args s 0 0 (aN NM ad)) (F0 m 7 ls [])) (hb1 : ∀ (v : Int32 × Int64), o = .inl v → ∀ (H : Heap) (locs : List Loc) (ls : Array Slot), Wd D ay kM NM ad (aN NM ad) s σ H locs → lv_has ls 8 [(0, .ref (ad a0)), (1, .int l1), (3, .int v.1), (4, .long v.2)] → W p l e (rmK 2 49) s m args below meth c H locs 0 0 (MQ below (cV D ay kM NM ad σ0) args s 0 0 (aN NM ad)) (F0 m 85 ls [])) (hr : ∀ x, o = .inr (.inr (x)) → x = σ0) (w : Wd D ay kM NM ad (aN NM ad) s σ H locs) (hl : lv_has ls 8 [(0, .ref (ad a0)), (1, .int l1), (3, .int l3), (4, .long l4)]) : W p l e (rmK 2 49) s m args below meth c H locs 0 0 (MQ below (cV D ay kM NM ad σ0) args s 0 0 (aN NM ad)) (F0 m 85 ls []) := by
  have k_a0 := okr_in ok_a0
  unfold F_X12_cut_85b at hf
  refine lv_aload_n G.hx G.hb (dcs_get dec_X12_cut_1 6 rfl) rfl (lv_at hl 0 rfl) ?_
  refine lv_iload_n G.hx G.hb (dcs_get dec_X12_cut_1 7 rfl) rfl (lv_at hl 1 rfl) ?_
  refine lv_iload_n G.hx G.hb (dcs_get dec_X12_cut_1 8 rfl) rfl (lv_at hl 2 rfl) ?_
  refine lv_iadd G.hx G.hb (dcs_get dec_X12_cut_1 9 rfl) ?_
  obtain ⟨v11, h10, hf⟩ := cB_some hf
  refine a_i (k_V (As := [.int (l1 + l3)]) (rest := []) cls12 lb_X12_byteAt lv_X12_byteAt q_1236 (C_X12_byteAt G.2.2.1 a0 (l1 + l3) σ h10 ok_a0) ⟨(Nat.le_of_ble_eq_true rfl), (Nat.le_of_ble_eq_true rfl)⟩ G w k_a0.1 k_a0.2 rfl rfl hl.1 (Nat.le_of_ble_eq_true rfl) (dcs_get dec_X12_cut_1 10 rfl) ⟨Nat.le_refl _, Nat.le_refl _⟩) G w (fun H locs w => ?_)
  obtain ⟨v13, h12, hf⟩ := cB_some hf
  refine a_i (k_S (As := [.int v11]) (rest := []) lb_X12_isLetter q_1245 q_1244 (C_X12_isLetter G.2.2.1 v11 σ h12 ) ⟨(Nat.le_of_ble_eq_true rfl), (Nat.le_of_ble_eq_true rfl)⟩ G w rfl rfl hl.1 (Nat.le_of_ble_eq_true rfl) (dcs_get dec_X12_cut_1 11 rfl) ⟨Nat.le_refl _, Nat.le_refl _⟩) G w (fun H locs w => ?_)
  refine lv_if_eq (tgt := 124) G.hx G.hb (dcs_get dec_X12_cut_1 12 rfl) (by decide) (fun hc => ?_) (fun hc => ?_)
  · rw [if_pos hc] at hf
    refine lv_iload_n G.hx G.hb (dcs_get dec_X12_cut_1 26 rfl) rfl (lv_at hl 2 rfl) ?_
    refine lv_bipush (v := (8 : Int32)) G.hx G.hb (dcs_get dec_X12_cut_1 27 rfl) (by decide) ?_
    refine lv_icmp_le (tgt := 134) G.hx G.hb (dcs_get dec_X12_cut_1 28 rfl) (by decide) (fun hc => ?_) (fun hc => ?_)
    · rw [if_pos hc] at hf
      refine lv_iconst (v := (1 : Int32)) G.hx G.hb (dcs_get dec_X12_cut_1 31 rfl) (by decide) ?_
      obtain ⟨x9, h9, e9⟩ := map_some_inv hf
      subst e9
      exact B_X12_cut_135 a0 l1 l3 l4 (1 : Int32) σ G hm ok_a0 h9 (fun v e => hb0 v (by rw [e])) (fun x e => hr x (by rw [e])) w (lv_sub hl [0, 1, 2, 3] rfl)
    · rw [if_neg hc] at hf
      refine lv_iconst (v := (3 : Int32)) G.hx G.hb (dcs_get dec_X12_cut_1 29 rfl) (by decide) ?_
      refine lv_goto (tgt := 135) G.hx G.hb (dcs_get dec_X12_cut_1 30 rfl) (by decide) ?_
      obtain ⟨x9, h9, e9⟩ := map_some_inv hf
      subst e9
      exact B_X12_cut_135 a0 l1 l3 l4 (3 : Int32) σ G hm ok_a0 h9 (fun v e => hb0 v (by rw [e])) (fun x e => hr x (by rw [e])) w (lv_sub hl [0, 1, 2, 3] rfl)
  · rw [if_neg hc] at hf
    refine lv_iload_n G.hx G.hb (dcs_get dec_X12_cut_1 13 rfl) rfl (lv_at hl 2 rfl) ?_
    refine lv_bipush (v := (8 : Int32)) G.hx G.hb (dcs_get dec_X12_cut_1 14 rfl) (by decide) ?_
    refine lv_icmp_ge (tgt := 118) G.hx G.hb (dcs_get dec_X12_cut_1 15 rfl) (by decide) (fun hc => ?_) (fun hc => ?_)
    · rw [if_pos hc] at hf
      exact B_X12_cut_118 a0 l1 l3 l4 σ G hm ok_a0 hf hb0 hb1 hr w (lv_sub hl [0, 1, 2, 3] rfl)
    · rw [if_neg hc] at hf
      refine lv_lload G.hx G.hb (dcs_get dec_X12_cut_1 16 rfl) (lv_at hl 3 rfl) ?_
      refine lv_aload_n G.hx G.hb (dcs_get dec_X12_cut_1 17 rfl) rfl (lv_at hl 0 rfl) ?_
      refine lv_iload_n G.hx G.hb (dcs_get dec_X12_cut_1 18 rfl) rfl (lv_at hl 1 rfl) ?_
      refine lv_iload_n G.hx G.hb (dcs_get dec_X12_cut_1 19 rfl) rfl (lv_at hl 2 rfl) ?_
      refine lv_iadd G.hx G.hb (dcs_get dec_X12_cut_1 20 rfl) ?_
      obtain ⟨v15, h14, hf⟩ := cB_some hf
      refine a_i (k_V (As := [.int (l1 + l3)]) (rest := [.long l4]) cls12 lb_X12_byteAt lv_X12_byteAt q_1236 (C_X12_byteAt G.2.2.1 a0 (l1 + l3) σ h14 ok_a0) ⟨(Nat.le_of_ble_eq_true rfl), (Nat.le_of_ble_eq_true rfl)⟩ G w k_a0.1 k_a0.2 rfl rfl hl.1 (Nat.le_of_ble_eq_true rfl) (dcs_get dec_X12_cut_1 21 rfl) ⟨Nat.le_refl _, Nat.le_refl _⟩) G w (fun H locs w => ?_)
      obtain ⟨v17, h16, hf⟩ := cB_some hf
      refine a_l (k_S (As := [.long l4, .int v15]) (rest := []) lb_X12_appends q_994 q_993 (C_X12_appends G.2.2.1 l4 v15 σ h16 ) ⟨(Nat.le_of_ble_eq_true rfl), (Nat.le_of_ble_eq_true rfl)⟩ G w rfl rfl hl.1 (Nat.le_of_ble_eq_true rfl) (dcs_get dec_X12_cut_1 22 rfl) ⟨Nat.le_refl _, Nat.le_refl _⟩) G w (fun H locs w => ?_)
      refine lv_lstore (lv' := [(4, .long v17), (0, .ref (ad a0)), (1, .int l1), (3, .int l3)]) G.hx G.hb (dcs_get dec_X12_cut_1 23 rfl) hl (by decide) rfl (fun ls hl => ?_)
      exact B_X12_cut_118 a0 l1 l3 v17 σ G hm ok_a0 hf hb0 hb1 hr w (lv_sub hl [1, 2, 3, 0] rfl)
set_option maxRecDepth 100000 in
set_option maxHeartbeats 4000000 in
theorem H_X12_cut_85 {σ0 : hSt} {o : (Int32 × hSt) ⊕ (hSt)} (a0 : Nat) (l1 : Int32) (σ : hSt) (G : Gx p m c cX12_cut 8 s args RX12 D ay NM ad (aN NM ad)) (hm : meth.sig.returnType = none ∧ meth.locks = false) (ok_a0 : okr kM NM 12 a0 = true) (hb0 : ∀ (v : Int32 × hSt), o = .inl v → ∀ (H : Heap) (locs : List Loc) (ls : Array Slot), Wd D ay kM NM ad (aN NM ad) s v.2 H locs → lv_has ls 8 [(0, .ref (ad a0)), (1, .int v.1)] → W p l e (rmK 2 49) s m args below meth c H locs 0 0 (MQ below (cV D ay kM NM ad σ0) args s 0 0 (aN NM ad)) (F0 m 7 ls [])) (hr : ∀ x, o = .inr (x) → x = σ0) : ∀ (k : Nat) (v : Int32 × Int64), lp (S_X12_cut_85 a0 l1 σ) k v = some o → ∀ (H : Heap) (locs : List Loc) (ls : Array Slot), Wd D ay kM NM ad (aN NM ad) s σ H locs → lv_has ls 8 [(0, .ref (ad a0)), (1, .int l1), (3, .int v.1), (4, .long v.2)] → W p l e (rmK 2 49) s m args below meth c H locs 0 0 (MQ below (cV D ay kM NM ad σ0) args s 0 0 (aN NM ad)) (F0 m 85 ls []) := by
  intro k
  induction k with
  | zero => intro v hf; cases hf
  | succ k ih =>
    intro v hf H locs ls w hl
    obtain ⟨o1, h1, h2, h3⟩ := lp_some hf
    exact B_X12_cut_85b a0 l1 v.1 v.2 σ G hm ok_a0 h1 (fun v' e => hb0 v' (h3 _ e).symm) (fun v' e => ih v' (h2 v' e)) (fun x e => hr x (h3 _ e).symm) w hl
set_option maxRecDepth 100000 in
set_option maxHeartbeats 4000000 in
theorem B_X12_cut_85 {H : Heap} {locs : List Loc} {ls : Array Slot} {σ0 : hSt} {o : (Int32 × hSt) ⊕ (hSt)} (a0 : Nat) (l1 : Int32) (l3 : Int32) (l4 : Int64) (σ : hSt) (G : Gx p m c cX12_cut 8 s args RX12 D ay NM ad (aN NM ad)) (hm : meth.sig.returnType = none ∧ meth.locks = false) (ok_a0 : okr kM NM 12 a0 = true) (hf : F_X12_cut_85 a0 l1 l3 l4 σ = some o) (hb0 : ∀ (v : Int32 × hSt), o = .inl v → ∀ (H : Heap) (locs : List Loc) (ls : Array Slot), Wd D ay kM NM ad (aN NM ad) s v.2 H locs → lv_has ls 8 [(0, .ref (ad a0)), (1, .int v.1)] → W p l e (rmK 2 49) s m args below meth c H locs 0 0 (MQ below (cV D ay kM NM ad σ0) args s 0 0 (aN NM ad)) (F0 m 7 ls [])) (hr : ∀ x, o = .inr (x) → x = σ0) (w : Wd D ay kM NM ad (aN NM ad) s σ H locs) (hl : lv_has ls 8 [(0, .ref (ad a0)), (1, .int l1), (3, .int l3), (4, .long l4)]) : W p l e (rmK 2 49) s m args below meth c H locs 0 0 (MQ below (cV D ay kM NM ad σ0) args s 0 0 (aN NM ad)) (F0 m 85 ls []) := by
  unfold F_X12_cut_85 at hf
  exact H_X12_cut_85 a0 l1 σ G hm ok_a0 hb0 hr fuel (l3, l4) hf _ _ _ w hl
set_option maxRecDepth 100000 in
set_option maxHeartbeats 4000000 in
theorem B_X12_cut_244 {H : Heap} {locs : List Loc} {ls : Array Slot} {σ0 : hSt} {o : (Int32 × Int32) ⊕ ((Int32 × hSt) ⊕ (hSt))} (a0 : Nat) (l1 : Int32) (l3 : Int32) (l4 : Int32) (σ : hSt) (G : Gx p m c cX12_cut 8 s args RX12 D ay NM ad (aN NM ad)) (hm : meth.sig.returnType = none ∧ meth.locks = false) (ok_a0 : okr kM NM 12 a0 = true) (hf : F_X12_cut_244 a0 l1 l3 l4 σ = some o) (hb0 : ∀ (v : Int32 × hSt), o = .inr (.inl v) → ∀ (H : Heap) (locs : List Loc) (ls : Array Slot), Wd D ay kM NM ad (aN NM ad) s v.2 H locs → lv_has ls 8 [(0, .ref (ad a0)), (1, .int v.1)] → W p l e (rmK 2 49) s m args below meth c H locs 0 0 (MQ below (cV D ay kM NM ad σ0) args s 0 0 (aN NM ad)) (F0 m 7 ls [])) (hb1 : ∀ (v : Int32 × Int32), o = .inl v → ∀ (H : Heap) (locs : List Loc) (ls : Array Slot), Wd D ay kM NM ad (aN NM ad) s σ H locs → lv_has ls 8 [(0, .ref (ad a0)), (1, .int l1), (3, .int v.1), (4, .int v.2)] → W p l e (rmK 2 49) s m args below meth c H locs 0 0 (MQ below (cV D ay kM NM ad σ0) args s 0 0 (aN NM ad)) (F0 m 208 ls [])) (hr : ∀ x, o = .inr (.inr (x)) → x = σ0) (w : Wd D ay kM NM ad (aN NM ad) s σ H locs) (hl : lv_has ls 8 [(0, .ref (ad a0)), (1, .int l1), (3, .int l3), (4, .int l4)]) : W p l e (rmK 2 49) s m args below meth c H locs 0 0 (MQ below (cV D ay kM NM ad σ0) args s 0 0 (aN NM ad)) (F0 m 244 ls []) := by
  have k_a0 := okr_in ok_a0
  unfold F_X12_cut_244 at hf
  obtain ⟨v18, e_v18, hf⟩ := cL_some hf
  refine lv_iinc (v := v18) (lv' := [(3, .int v18), (0, .ref (ad a0)), (1, .int l1), (4, .int l4)]) G.hx G.hb (dcs_get dec_X12_cut_3 14 rfl) hl (k := 2) rfl (by rw [e_v18]; rfl) (by decide) rfl (fun ls hl => ?_)
  refine lv_goto (tgt := 208) G.hx G.hb (dcs_get dec_X12_cut_3 15 rfl) (by decide) ?_
  exact hb1 _ (Option.some.inj hf).symm _ _ _ w (lv_sub hl [1, 2, 0, 3] rfl)
set_option maxRecDepth 100000 in
set_option maxHeartbeats 4000000 in
theorem B_X12_cut_261 {H : Heap} {locs : List Loc} {ls : Array Slot} {σ0 : hSt} {o : (Int32 × hSt) ⊕ (hSt)} (a0 : Nat) (l1 : Int32) (l3 : Int32) (l4 : Int32) (s0 : Nat) (s1 : Int32) (σ : hSt) (G : Gx p m c cX12_cut 8 s args RX12 D ay NM ad (aN NM ad)) (hm : meth.sig.returnType = none ∧ meth.locks = false) (ok_a0 : okr kM NM 12 a0 = true) (ok_s0 : okr kM NM 12 s0 = true) (hf : F_X12_cut_261 a0 l1 l3 l4 s0 s1 σ = some o) (hb0 : ∀ (v : Int32 × hSt), o = .inl v → ∀ (H : Heap) (locs : List Loc) (ls : Array Slot), Wd D ay kM NM ad (aN NM ad) s v.2 H locs → lv_has ls 8 [(0, .ref (ad a0)), (1, .int v.1)] → W p l e (rmK 2 49) s m args below meth c H locs 0 0 (MQ below (cV D ay kM NM ad σ0) args s 0 0 (aN NM ad)) (F0 m 7 ls [])) (hr : ∀ x, o = .inr (x) → x = σ0) (w : Wd D ay kM NM ad (aN NM ad) s σ H locs) (hl : lv_has ls 8 [(0, .ref (ad a0)), (1, .int l1), (3, .int l3), (4, .int l4)]) : W p l e (rmK 2 49) s m args below meth c H locs 0 0 (MQ below (cV D ay kM NM ad σ0) args s 0 0 (aN NM ad)) (F0 m 261 ls [.int s1, .ref (ad s0)]) := by
  have k_a0 := okr_in ok_a0
  have k_s0 := okr_in ok_s0
  unfold F_X12_cut_261 at hf
  refine lv_iload_n G.hx G.hb (dcs_get dec_X12_cut_3 23 rfl) rfl (lv_at hl 1 rfl) ?_
  refine lv_iload G.hx G.hb (dcs_get dec_X12_cut_3 24 rfl) (lv_at hl 3 rfl) ?_
  refine lv_lconst (v := (0 : Int64)) G.hx G.hb (dcs_get dec_X12_cut_3 25 rfl) (by decide) ?_
  obtain ⟨σ20, h19, hf⟩ := cB_some hf
  refine a_v (k_V (As := [.int s1, .int l1, .int l4, .long (0 : Int64)]) (rest := []) cls12 lb_X12_token lv_X12_token q_1240 (C_X12_token G.2.2.1 s0 s1 l1 l4 (0 : Int64) σ h19 ok_s0) ⟨(Nat.le_of_ble_eq_true rfl), (Nat.le_of_ble_eq_true rfl)⟩ G w k_s0.1 k_s0.2 rfl rfl hl.1 (Nat.le_of_ble_eq_true rfl) (dcs_get dec_X12_cut_3 26 rfl) ⟨Nat.le_refl _, Nat.le_refl _⟩) G w (fun H locs w => ?_)
  refine lv_iload_n G.hx G.hb (dcs_get dec_X12_cut_3 27 rfl) rfl (lv_at hl 1 rfl) ?_
  refine lv_iload_n G.hx G.hb (dcs_get dec_X12_cut_3 28 rfl) rfl (lv_at hl 2 rfl) ?_
  refine lv_iadd G.hx G.hb (dcs_get dec_X12_cut_3 29 rfl) ?_
  obtain ⟨v21, e_v21, hf⟩ := cL_some hf
  refine r_topi e_v21 ?_
  refine lv_istore_n (lv' := [(1, .int v21), (0, .ref (ad a0)), (3, .int l3), (4, .int l4)]) G.hx G.hb (dcs_get dec_X12_cut_3 30 rfl) rfl hl (by decide) rfl (fun ls hl => ?_)
  refine lv_goto (tgt := 291) G.hx G.hb (dcs_get dec_X12_cut_3 31 rfl) (by decide) ?_
  exact B_X12_cut_291 a0 v21 σ20 G hm ok_a0 hf hb0 hr w (lv_sub hl [1, 0] rfl)
set_option maxRecDepth 100000 in
set_option maxHeartbeats 4000000 in
theorem B_X12_cut_208b {H : Heap} {locs : List Loc} {ls : Array Slot} {σ0 : hSt} {o : (Int32 × Int32) ⊕ ((Int32 × hSt) ⊕ (hSt))} (a0 : Nat) (l1 : Int32) (l3 : Int32) (l4 : Int32) (σ : hSt) (G : Gx p m c cX12_cut 8 s args RX12 D ay NM ad (aN NM ad)) (hm : meth.sig.returnType = none ∧ meth.locks = false) (ok_a0 : okr kM NM 12 a0 = true) (hf : F_X12_cut_208b a0 l1 l3 l4 σ = some o) (hb0 : ∀ (v : Int32 × hSt), o = .inr (.inl v) → ∀ (H : Heap) (locs : List Loc) (ls : Array Slot), Wd D ay kM NM ad (aN NM ad) s v.2 H locs → lv_has ls 8 [(0, .ref (ad a0)), (1, .int v.1)] → W p l e (rmK 2 49) s m args below meth c H locs 0 0 (MQ below (cV D ay kM NM ad σ0) args s 0 0 (aN NM ad)) (F0 m 7 ls [])) (hb1 : ∀ (v : Int32 × Int32), o = .inl v → ∀ (H : Heap) (locs : List Loc) (ls : Array Slot), Wd D ay kM NM ad (aN NM ad) s σ H locs → lv_has ls 8 [(0, .ref (ad a0)), (1, .int l1), (3, .int v.1), (4, .int v.2)] → W p l e (rmK 2 49) s m args below meth c H locs 0 0 (MQ below (cV D ay kM NM ad σ0) args s 0 0 (aN NM ad)) (F0 m 208 ls [])) (hr : ∀ x, o = .inr (.inr (x)) → x = σ0) (w : Wd D ay kM NM ad (aN NM ad) s σ H locs) (hl : lv_has ls 8 [(0, .ref (ad a0)), (1, .int l1), (3, .int l3), (4, .int l4)]) : W p l e (rmK 2 49) s m args below meth c H locs 0 0 (MQ below (cV D ay kM NM ad σ0) args s 0 0 (aN NM ad)) (F0 m 208 ls []) := by
  have k_a0 := okr_in ok_a0
  unfold F_X12_cut_208b at hf
  refine lv_aload_n G.hx G.hb (dcs_get dec_X12_cut_2 32 rfl) rfl (lv_at hl 0 rfl) ?_
  refine lv_iload_n G.hx G.hb (dcs_get dec_X12_cut_2 33 rfl) rfl (lv_at hl 1 rfl) ?_
  refine lv_iload_n G.hx G.hb (dcs_get dec_X12_cut_2 34 rfl) rfl (lv_at hl 2 rfl) ?_
  refine lv_iadd G.hx G.hb (dcs_get dec_X12_cut_2 35 rfl) ?_
  obtain ⟨v23, h22, hf⟩ := cB_some hf
  refine a_i (k_V (As := [.int (l1 + l3)]) (rest := []) cls12 lb_X12_byteAt lv_X12_byteAt q_1236 (C_X12_byteAt G.2.2.1 a0 (l1 + l3) σ h22 ok_a0) ⟨(Nat.le_of_ble_eq_true rfl), (Nat.le_of_ble_eq_true rfl)⟩ G w k_a0.1 k_a0.2 rfl rfl hl.1 (Nat.le_of_ble_eq_true rfl) (dcs_get dec_X12_cut_2 36 rfl) ⟨Nat.le_refl _, Nat.le_refl _⟩) G w (fun H locs w => ?_)
  obtain ⟨v25, h24, hf⟩ := cB_some hf
  refine a_i (k_S (As := [.int v23]) (rest := []) lb_X12_isDigit q_1248 q_1247 (C_X12_isDigit G.2.2.1 v23 σ h24 ) ⟨(Nat.le_of_ble_eq_true rfl), (Nat.le_of_ble_eq_true rfl)⟩ G w rfl rfl hl.1 (Nat.le_of_ble_eq_true rfl) (dcs_get dec_X12_cut_2 37 rfl) ⟨Nat.le_refl _, Nat.le_refl _⟩) G w (fun H locs w => ?_)
  refine lv_if_eq (tgt := 250) G.hx G.hb (dcs_get dec_X12_cut_2 38 rfl) (by decide) (fun hc => ?_) (fun hc => ?_)
  · rw [if_pos hc] at hf
    refine lv_aload_n G.hx G.hb (dcs_get dec_X12_cut_3 16 rfl) rfl (lv_at hl 0 rfl) ?_
    refine lv_iload_n G.hx G.hb (dcs_get dec_X12_cut_3 17 rfl) rfl (lv_at hl 2 rfl) ?_
    refine lv_iconst (v := (4 : Int32)) G.hx G.hb (dcs_get dec_X12_cut_3 18 rfl) (by decide) ?_
    refine lv_icmp_le (tgt := 260) G.hx G.hb (dcs_get dec_X12_cut_3 19 rfl) (by decide) (fun hc => ?_) (fun hc => ?_)
    · rw [if_pos hc] at hf
      refine lv_iconst (v := (2 : Int32)) G.hx G.hb (dcs_get dec_X12_cut_3 22 rfl) (by decide) ?_
      obtain ⟨x9, h9, e9⟩ := map_some_inv hf
      subst e9
      exact B_X12_cut_261 a0 l1 l3 l4 a0 (2 : Int32) σ G hm ok_a0 ok_a0 h9 (fun v e => hb0 v (by rw [e])) (fun x e => hr x (by rw [e])) w (lv_sub hl [0, 1, 2, 3] rfl)
    · rw [if_neg hc] at hf
      refine lv_iconst (v := (3 : Int32)) G.hx G.hb (dcs_get dec_X12_cut_3 20 rfl) (by decide) ?_
      refine lv_goto (tgt := 261) G.hx G.hb (dcs_get dec_X12_cut_3 21 rfl) (by decide) ?_
      obtain ⟨x9, h9, e9⟩ := map_some_inv hf
      subst e9
      exact B_X12_cut_261 a0 l1 l3 l4 a0 (3 : Int32) σ G hm ok_a0 ok_a0 h9 (fun v e => hb0 v (by rw [e])) (fun x e => hr x (by rw [e])) w (lv_sub hl [0, 1, 2, 3] rfl)
  · rw [if_neg hc] at hf
    refine lv_iload_n G.hx G.hb (dcs_get dec_X12_cut_2 39 rfl) rfl (lv_at hl 2 rfl) ?_
    refine lv_iconst (v := (4 : Int32)) G.hx G.hb (dcs_get dec_X12_cut_3 0 rfl) (by decide) ?_
    refine lv_icmp_ge (tgt := 244) G.hx G.hb (dcs_get dec_X12_cut_3 1 rfl) (by decide) (fun hc => ?_) (fun hc => ?_)
    · rw [if_pos hc] at hf
      exact B_X12_cut_244 a0 l1 l3 l4 σ G hm ok_a0 hf hb0 hb1 hr w (lv_sub hl [0, 1, 2, 3] rfl)
    · rw [if_neg hc] at hf
      refine lv_bipush (v := (10 : Int32)) G.hx G.hb (dcs_get dec_X12_cut_3 2 rfl) (by decide) ?_
      refine lv_iload G.hx G.hb (dcs_get dec_X12_cut_3 3 rfl) (lv_at hl 3 rfl) ?_
      refine lv_imul G.hx G.hb (dcs_get dec_X12_cut_3 4 rfl) ?_
      refine lv_aload_n G.hx G.hb (dcs_get dec_X12_cut_3 5 rfl) rfl (lv_at hl 0 rfl) ?_
      refine lv_iload_n G.hx G.hb (dcs_get dec_X12_cut_3 6 rfl) rfl (lv_at hl 1 rfl) ?_
      refine lv_iload_n G.hx G.hb (dcs_get dec_X12_cut_3 7 rfl) rfl (lv_at hl 2 rfl) ?_
      refine lv_iadd G.hx G.hb (dcs_get dec_X12_cut_3 8 rfl) ?_
      obtain ⟨v27, h26, hf⟩ := cB_some hf
      refine a_i (k_V (As := [.int (l1 + l3)]) (rest := [.int ((10 : Int32) * l4)]) cls12 lb_X12_byteAt lv_X12_byteAt q_1236 (C_X12_byteAt G.2.2.1 a0 (l1 + l3) σ h26 ok_a0) ⟨(Nat.le_of_ble_eq_true rfl), (Nat.le_of_ble_eq_true rfl)⟩ G w k_a0.1 k_a0.2 rfl rfl hl.1 (Nat.le_of_ble_eq_true rfl) (dcs_get dec_X12_cut_3 9 rfl) ⟨Nat.le_refl _, Nat.le_refl _⟩) G w (fun H locs w => ?_)
      refine lv_iadd G.hx G.hb (dcs_get dec_X12_cut_3 10 rfl) ?_
      refine lv_bipush (v := (48 : Int32)) G.hx G.hb (dcs_get dec_X12_cut_3 11 rfl) (by decide) ?_
      refine lv_isub G.hx G.hb (dcs_get dec_X12_cut_3 12 rfl) ?_
      obtain ⟨v28, e_v28, hf⟩ := cL_some hf
      refine r_topi e_v28 ?_
      refine lv_istore (lv' := [(4, .int v28), (0, .ref (ad a0)), (1, .int l1), (3, .int l3)]) G.hx G.hb (dcs_get dec_X12_cut_3 13 rfl) hl (by decide) rfl (fun ls hl => ?_)
      exact B_X12_cut_244 a0 l1 l3 v28 σ G hm ok_a0 hf hb0 hb1 hr w (lv_sub hl [1, 2, 3, 0] rfl)
set_option maxRecDepth 100000 in
set_option maxHeartbeats 4000000 in
theorem H_X12_cut_208 {σ0 : hSt} {o : (Int32 × hSt) ⊕ (hSt)} (a0 : Nat) (l1 : Int32) (σ : hSt) (G : Gx p m c cX12_cut 8 s args RX12 D ay NM ad (aN NM ad)) (hm : meth.sig.returnType = none ∧ meth.locks = false) (ok_a0 : okr kM NM 12 a0 = true) (hb0 : ∀ (v : Int32 × hSt), o = .inl v → ∀ (H : Heap) (locs : List Loc) (ls : Array Slot), Wd D ay kM NM ad (aN NM ad) s v.2 H locs → lv_has ls 8 [(0, .ref (ad a0)), (1, .int v.1)] → W p l e (rmK 2 49) s m args below meth c H locs 0 0 (MQ below (cV D ay kM NM ad σ0) args s 0 0 (aN NM ad)) (F0 m 7 ls [])) (hr : ∀ x, o = .inr (x) → x = σ0) : ∀ (k : Nat) (v : Int32 × Int32), lp (S_X12_cut_208 a0 l1 σ) k v = some o → ∀ (H : Heap) (locs : List Loc) (ls : Array Slot), Wd D ay kM NM ad (aN NM ad) s σ H locs → lv_has ls 8 [(0, .ref (ad a0)), (1, .int l1), (3, .int v.1), (4, .int v.2)] → W p l e (rmK 2 49) s m args below meth c H locs 0 0 (MQ below (cV D ay kM NM ad σ0) args s 0 0 (aN NM ad)) (F0 m 208 ls []) := by
  intro k
  induction k with
  | zero => intro v hf; cases hf
  | succ k ih =>
    intro v hf H locs ls w hl
    obtain ⟨o1, h1, h2, h3⟩ := lp_some hf
    exact B_X12_cut_208b a0 l1 v.1 v.2 σ G hm ok_a0 h1 (fun v' e => hb0 v' (h3 _ e).symm) (fun v' e => ih v' (h2 v' e)) (fun x e => hr x (h3 _ e).symm) w hl
set_option maxRecDepth 100000 in
set_option maxHeartbeats 4000000 in
theorem B_X12_cut_208 {H : Heap} {locs : List Loc} {ls : Array Slot} {σ0 : hSt} {o : (Int32 × hSt) ⊕ (hSt)} (a0 : Nat) (l1 : Int32) (l3 : Int32) (l4 : Int32) (σ : hSt) (G : Gx p m c cX12_cut 8 s args RX12 D ay NM ad (aN NM ad)) (hm : meth.sig.returnType = none ∧ meth.locks = false) (ok_a0 : okr kM NM 12 a0 = true) (hf : F_X12_cut_208 a0 l1 l3 l4 σ = some o) (hb0 : ∀ (v : Int32 × hSt), o = .inl v → ∀ (H : Heap) (locs : List Loc) (ls : Array Slot), Wd D ay kM NM ad (aN NM ad) s v.2 H locs → lv_has ls 8 [(0, .ref (ad a0)), (1, .int v.1)] → W p l e (rmK 2 49) s m args below meth c H locs 0 0 (MQ below (cV D ay kM NM ad σ0) args s 0 0 (aN NM ad)) (F0 m 7 ls [])) (hr : ∀ x, o = .inr (x) → x = σ0) (w : Wd D ay kM NM ad (aN NM ad) s σ H locs) (hl : lv_has ls 8 [(0, .ref (ad a0)), (1, .int l1), (3, .int l3), (4, .int l4)]) : W p l e (rmK 2 49) s m args below meth c H locs 0 0 (MQ below (cV D ay kM NM ad σ0) args s 0 0 (aN NM ad)) (F0 m 208 ls []) := by
  unfold F_X12_cut_208 at hf
  exact H_X12_cut_208 a0 l1 σ G hm ok_a0 hb0 hr fuel (l3, l4) hf _ _ _ w hl
set_option maxRecDepth 100000 in
set_option maxHeartbeats 4000000 in
theorem B_X12_cut_7b {H : Heap} {locs : List Loc} {ls : Array Slot} {σ0 : hSt} {o : (Int32 × hSt) ⊕ (hSt)} (a0 : Nat) (l1 : Int32) (σ : hSt) (G : Gx p m c cX12_cut 8 s args RX12 D ay NM ad (aN NM ad)) (hm : meth.sig.returnType = none ∧ meth.locks = false) (ok_a0 : okr kM NM 12 a0 = true) (hf : F_X12_cut_7b a0 l1 σ = some o) (hb0 : ∀ (v : Int32 × hSt), o = .inl v → ∀ (H : Heap) (locs : List Loc) (ls : Array Slot), Wd D ay kM NM ad (aN NM ad) s v.2 H locs → lv_has ls 8 [(0, .ref (ad a0)), (1, .int v.1)] → W p l e (rmK 2 49) s m args below meth c H locs 0 0 (MQ below (cV D ay kM NM ad σ0) args s 0 0 (aN NM ad)) (F0 m 7 ls [])) (hr : ∀ x, o = .inr (x) → x = σ0) (w : Wd D ay kM NM ad (aN NM ad) s σ H locs) (hl : lv_has ls 8 [(0, .ref (ad a0)), (1, .int l1)]) : W p l e (rmK 2 49) s m args below meth c H locs 0 0 (MQ below (cV D ay kM NM ad σ0) args s 0 0 (aN NM ad)) (F0 m 7 ls []) := by
  have k_a0 := okr_in ok_a0
  unfold F_X12_cut_7b at hf
  refine lv_aload_n G.hx G.hb (dcs_get dec_X12_cut_0 5 rfl) rfl (lv_at hl 0 rfl) ?_
  refine r_geti (k := 10) cls12 fi_12_10.1 fi_12_10.2 q_1018 G w k_a0.1 k_a0.2 (dcs_get dec_X12_cut_0 6 rfl) ?_
  refine lv_sipush (v := (400 : Int32)) G.hx G.hb (dcs_get dec_X12_cut_0 7 rfl) (by decide) ?_
  refine lv_icmp_gt (tgt := 294) G.hx G.hb (dcs_get dec_X12_cut_0 8 rfl) (by decide) (fun hc => ?_) (fun hc => ?_)
  · rw [if_pos hc] at hf
    have e9 := hr _ (Option.some.inj hf).symm
    exact r_vret G w hm e9 (dcs_get dec_X12_cut_4 5 rfl)
  · rw [if_neg hc] at hf
    refine lv_aload_n G.hx G.hb (dcs_get dec_X12_cut_0 9 rfl) rfl (lv_at hl 0 rfl) ?_
    refine lv_iload_n G.hx G.hb (dcs_get dec_X12_cut_0 10 rfl) rfl (lv_at hl 1 rfl) ?_
    obtain ⟨v30, h29, hf⟩ := cB_some hf
    refine a_i (k_V (As := [.int l1]) (rest := []) cls12 lb_X12_byteAt lv_X12_byteAt q_1236 (C_X12_byteAt G.2.2.1 a0 l1 σ h29 ok_a0) ⟨(Nat.le_of_ble_eq_true rfl), (Nat.le_of_ble_eq_true rfl)⟩ G w k_a0.1 k_a0.2 rfl rfl hl.1 (Nat.le_of_ble_eq_true rfl) (dcs_get dec_X12_cut_0 11 rfl) ⟨Nat.le_refl _, Nat.le_refl _⟩) G w (fun H locs w => ?_)
    refine lv_istore_n (lv' := [(2, .int v30), (0, .ref (ad a0)), (1, .int l1)]) G.hx G.hb (dcs_get dec_X12_cut_0 12 rfl) rfl hl (by decide) rfl (fun ls hl => ?_)
    refine lv_iload_n G.hx G.hb (dcs_get dec_X12_cut_0 13 rfl) rfl (lv_at hl 2 rfl) ?_
    refine lv_aload_n G.hx G.hb (dcs_get dec_X12_cut_0 14 rfl) rfl (lv_at hl 1 rfl) ?_
    refine r_geti (k := 4) cls12 fi_12_4.1 fi_12_4.2 q_1012 G w k_a0.1 k_a0.2 (dcs_get dec_X12_cut_0 15 rfl) ?_
    refine lv_icmp_lt (tgt := 43) G.hx G.hb (dcs_get dec_X12_cut_0 16 rfl) (by decide) (fun hc => ?_) (fun hc => ?_)
    · rw [if_pos hc] at hf
      refine lv_iload_n G.hx G.hb (dcs_get dec_X12_cut_0 25 rfl) rfl (lv_at hl 0 rfl) ?_
      refine lv_bipush (v := (9 : Int32)) G.hx G.hb (dcs_get dec_X12_cut_0 26 rfl) (by decide) ?_
      refine lv_icmp_eq (tgt := 67) G.hx G.hb (dcs_get dec_X12_cut_0 27 rfl) (by decide) (fun hc => ?_) (fun hc => ?_)
      · rw [if_pos hc] at hf
        exact B_X12_cut_67 a0 l1 σ G hm ok_a0 hf hb0 hr w (lv_sub hl [1, 2] rfl)
      · rw [if_neg hc] at hf
        refine lv_iload_n G.hx G.hb (dcs_get dec_X12_cut_0 28 rfl) rfl (lv_at hl 0 rfl) ?_
        refine lv_bipush (v := (10 : Int32)) G.hx G.hb (dcs_get dec_X12_cut_0 29 rfl) (by decide) ?_
        refine lv_icmp_eq (tgt := 67) G.hx G.hb (dcs_get dec_X12_cut_0 30 rfl) (by decide) (fun hc => ?_) (fun hc => ?_)
        · rw [if_pos hc] at hf
          exact B_X12_cut_67 a0 l1 σ G hm ok_a0 hf hb0 hr w (lv_sub hl [1, 2] rfl)
        · rw [if_neg hc] at hf
          refine lv_iload_n G.hx G.hb (dcs_get dec_X12_cut_0 31 rfl) rfl (lv_at hl 0 rfl) ?_
          refine lv_bipush (v := (13 : Int32)) G.hx G.hb (dcs_get dec_X12_cut_0 32 rfl) (by decide) ?_
          refine lv_icmp_eq (tgt := 67) G.hx G.hb (dcs_get dec_X12_cut_0 33 rfl) (by decide) (fun hc => ?_) (fun hc => ?_)
          · rw [if_pos hc] at hf
            exact B_X12_cut_67 a0 l1 σ G hm ok_a0 hf hb0 hr w (lv_sub hl [1, 2] rfl)
          · rw [if_neg hc] at hf
            refine lv_iload_n G.hx G.hb (dcs_get dec_X12_cut_0 34 rfl) rfl (lv_at hl 0 rfl) ?_
            refine lv_bipush (v := (32 : Int32)) G.hx G.hb (dcs_get dec_X12_cut_0 35 rfl) (by decide) ?_
            refine lv_icmp_ne (tgt := 73) G.hx G.hb (dcs_get dec_X12_cut_0 36 rfl) (by decide) (fun hc => ?_) (fun hc => ?_)
            · rw [if_neg hc] at hf
              refine lv_iload_n G.hx G.hb (dcs_get dec_X12_cut_0 39 rfl) rfl (lv_at hl 0 rfl) ?_
              obtain ⟨v32, h31, hf⟩ := cB_some hf
              refine a_i (k_S (As := [.int v30]) (rest := []) lb_X12_isLetter q_1245 q_1244 (C_X12_isLetter G.2.2.1 v30 σ h31 ) ⟨(Nat.le_of_ble_eq_true rfl), (Nat.le_of_ble_eq_true rfl)⟩ G w rfl rfl hl.1 (Nat.le_of_ble_eq_true rfl) (dcs_get dec_X12_cut_1 0 rfl) ⟨Nat.le_refl _, Nat.le_refl _⟩) G w (fun H locs w => ?_)
              refine lv_if_eq (tgt := 196) G.hx G.hb (dcs_get dec_X12_cut_1 1 rfl) (by decide) (fun hc => ?_) (fun hc => ?_)
              · rw [if_pos hc] at hf
                refine lv_iload_n G.hx G.hb (dcs_get dec_X12_cut_2 25 rfl) rfl (lv_at hl 0 rfl) ?_
                obtain ⟨v34, h33, hf⟩ := cB_some hf
                refine a_i (k_S (As := [.int v30]) (rest := []) lb_X12_isDigit q_1248 q_1247 (C_X12_isDigit G.2.2.1 v30 σ h33 ) ⟨(Nat.le_of_ble_eq_true rfl), (Nat.le_of_ble_eq_true rfl)⟩ G w rfl rfl hl.1 (Nat.le_of_ble_eq_true rfl) (dcs_get dec_X12_cut_2 26 rfl) ⟨Nat.le_refl _, Nat.le_refl _⟩) G w (fun H locs w => ?_)
                refine lv_if_eq (tgt := 275) G.hx G.hb (dcs_get dec_X12_cut_2 27 rfl) (by decide) (fun hc => ?_) (fun hc => ?_)
                · rw [if_pos hc] at hf
                  refine lv_iload_n G.hx G.hb (dcs_get dec_X12_cut_3 32 rfl) rfl (lv_at hl 2 rfl) ?_
                  refine lv_aload_n G.hx G.hb (dcs_get dec_X12_cut_3 33 rfl) rfl (lv_at hl 1 rfl) ?_
                  refine lv_iload_n G.hx G.hb (dcs_get dec_X12_cut_3 34 rfl) rfl (lv_at hl 2 rfl) ?_
                  refine lv_iload_n G.hx G.hb (dcs_get dec_X12_cut_3 35 rfl) rfl (lv_at hl 0 rfl) ?_
                  refine lv_aload_n G.hx G.hb (dcs_get dec_X12_cut_3 36 rfl) rfl (lv_at hl 1 rfl) ?_
                  refine lv_iload_n G.hx G.hb (dcs_get dec_X12_cut_3 37 rfl) rfl (lv_at hl 2 rfl) ?_
                  refine lv_iconst (v := (1 : Int32)) G.hx G.hb (dcs_get dec_X12_cut_3 38 rfl) (by decide) ?_
                  refine lv_iadd G.hx G.hb (dcs_get dec_X12_cut_3 39 rfl) ?_
                  obtain ⟨v36, h35, hf⟩ := cB_some hf
                  refine a_i (k_V (As := [.int (l1 + (1 : Int32))]) (rest := [.int v30, .int l1, .ref (ad a0), .int l1]) cls12 lb_X12_byteAt lv_X12_byteAt q_1236 (C_X12_byteAt G.2.2.1 a0 (l1 + (1 : Int32)) σ h35 ok_a0) ⟨(Nat.le_of_ble_eq_true rfl), (Nat.le_of_ble_eq_true rfl)⟩ G w k_a0.1 k_a0.2 rfl rfl hl.1 (Nat.le_of_ble_eq_true rfl) (dcs_get dec_X12_cut_4 0 rfl) ⟨Nat.le_refl _, Nat.le_refl _⟩) G w (fun H locs w => ?_)
                  obtain ⟨v38, σ39, h37, hf⟩ := cC_some hf
                  refine a_i (k_V (As := [.int l1, .int v30, .int v36]) (rest := [.int l1]) cls12 lb_X12_sign lv_X12_sign q_1250 (C_X12_sign G.2.2.1 a0 l1 v30 v36 σ h37 ok_a0) ⟨(Nat.le_of_ble_eq_true rfl), (Nat.le_of_ble_eq_true rfl)⟩ G w k_a0.1 k_a0.2 rfl rfl hl.1 (Nat.le_of_ble_eq_true rfl) (dcs_get dec_X12_cut_4 1 rfl) ⟨Nat.le_refl _, Nat.le_refl _⟩) G w (fun H locs w => ?_)
                  refine lv_iadd G.hx G.hb (dcs_get dec_X12_cut_4 2 rfl) ?_
                  obtain ⟨v40, e_v40, hf⟩ := cL_some hf
                  refine r_topi e_v40 ?_
                  refine lv_istore_n (lv' := [(1, .int v40), (2, .int v30), (0, .ref (ad a0))]) G.hx G.hb (dcs_get dec_X12_cut_4 3 rfl) rfl hl (by decide) rfl (fun ls hl => ?_)
                  exact B_X12_cut_291 a0 v40 σ39 G hm ok_a0 hf hb0 hr w (lv_sub hl [2, 0] rfl)
                · rw [if_neg hc] at hf
                  refine lv_iconst (v := (0 : Int32)) G.hx G.hb (dcs_get dec_X12_cut_2 28 rfl) (by decide) ?_
                  refine lv_istore_n (lv' := [(3, .int (0 : Int32)), (2, .int v30), (0, .ref (ad a0)), (1, .int l1)]) G.hx G.hb (dcs_get dec_X12_cut_2 29 rfl) rfl hl (by decide) rfl (fun ls hl => ?_)
                  refine lv_iconst (v := (0 : Int32)) G.hx G.hb (dcs_get dec_X12_cut_2 30 rfl) (by decide) ?_
                  refine lv_istore (lv' := [(4, .int (0 : Int32)), (3, .int (0 : Int32)), (2, .int v30), (0, .ref (ad a0)), (1, .int l1)]) G.hx G.hb (dcs_get dec_X12_cut_2 31 rfl) hl (by decide) rfl (fun ls hl => ?_)
                  exact B_X12_cut_208 a0 l1 (0 : Int32) (0 : Int32) σ G hm ok_a0 hf hb0 hr w (lv_sub hl [3, 4, 1, 0] rfl)
              · rw [if_neg hc] at hf
                refine lv_iconst (v := (0 : Int32)) G.hx G.hb (dcs_get dec_X12_cut_1 2 rfl) (by decide) ?_
                refine lv_istore_n (lv' := [(3, .int (0 : Int32)), (2, .int v30), (0, .ref (ad a0)), (1, .int l1)]) G.hx G.hb (dcs_get dec_X12_cut_1 3 rfl) rfl hl (by decide) rfl (fun ls hl => ?_)
                refine lv_lconst (v := (0 : Int64)) G.hx G.hb (dcs_get dec_X12_cut_1 4 rfl) (by decide) ?_
                refine lv_lstore (lv' := [(4, .long (0 : Int64)), (3, .int (0 : Int32)), (2, .int v30), (0, .ref (ad a0)), (1, .int l1)]) G.hx G.hb (dcs_get dec_X12_cut_1 5 rfl) hl (by decide) rfl (fun ls hl => ?_)
                exact B_X12_cut_85 a0 l1 (0 : Int32) (0 : Int64) σ G hm ok_a0 hf hb0 hr w (lv_sub hl [3, 4, 1, 0] rfl)
            · rw [if_pos hc] at hf
              exact B_X12_cut_67 a0 l1 σ G hm ok_a0 hf hb0 hr w (lv_sub hl [1, 2] rfl)
    · rw [if_neg hc] at hf
      refine lv_aload_n G.hx G.hb (dcs_get dec_X12_cut_0 17 rfl) rfl (lv_at hl 1 rfl) ?_
      refine lv_iconst (v := (0 : Int32)) G.hx G.hb (dcs_get dec_X12_cut_0 18 rfl) (by decide) ?_
      refine lv_aload_n G.hx G.hb (dcs_get dec_X12_cut_0 19 rfl) rfl (lv_at hl 1 rfl) ?_
      refine r_geti (k := 4) cls12 fi_12_4.1 fi_12_4.2 q_1012 G w k_a0.1 k_a0.2 (dcs_get dec_X12_cut_0 20 rfl) ?_
      refine lv_iconst (v := (0 : Int32)) G.hx G.hb (dcs_get dec_X12_cut_0 21 rfl) (by decide) ?_
      refine lv_lconst (v := (0 : Int64)) G.hx G.hb (dcs_get dec_X12_cut_0 22 rfl) (by decide) ?_
      obtain ⟨σ42, h41, hf⟩ := cB_some hf
      refine a_v (k_V (As := [.int (0 : Int32), .int (σ.1 a0 4), .int (0 : Int32), .long (0 : Int64)]) (rest := []) cls12 lb_X12_token lv_X12_token q_1240 (C_X12_token G.2.2.1 a0 (0 : Int32) (σ.1 a0 4) (0 : Int32) (0 : Int64) σ h41 ok_a0) ⟨(Nat.le_of_ble_eq_true rfl), (Nat.le_of_ble_eq_true rfl)⟩ G w k_a0.1 k_a0.2 rfl rfl hl.1 (Nat.le_of_ble_eq_true rfl) (dcs_get dec_X12_cut_0 23 rfl) ⟨Nat.le_refl _, Nat.le_refl _⟩) G w (fun H locs w => ?_)
      have e9 := hr _ (Option.some.inj hf).symm
      exact r_vret G w hm e9 (dcs_get dec_X12_cut_0 24 rfl)
set_option maxRecDepth 100000 in
set_option maxHeartbeats 4000000 in
theorem H_X12_cut_7 {σ0 : hSt} (a0 : Nat) (G : Gx p m c cX12_cut 8 s args RX12 D ay NM ad (aN NM ad)) (hm : meth.sig.returnType = none ∧ meth.locks = false) (ok_a0 : okr kM NM 12 a0 = true)  : ∀ (k : Nat) (v : Int32 × hSt), lp (S_X12_cut_7 a0) k v = some σ0 → ∀ (H : Heap) (locs : List Loc) (ls : Array Slot), Wd D ay kM NM ad (aN NM ad) s v.2 H locs → lv_has ls 8 [(0, .ref (ad a0)), (1, .int v.1)] → W p l e (rmK 2 49) s m args below meth c H locs 0 0 (MQ below (cV D ay kM NM ad σ0) args s 0 0 (aN NM ad)) (F0 m 7 ls []) := by
  intro k
  induction k with
  | zero => intro v hf; cases hf
  | succ k ih =>
    intro v hf H locs ls w hl
    obtain ⟨o1, h1, h2, h3⟩ := lp_some hf
    exact B_X12_cut_7b a0 v.1 v.2 G hm ok_a0 h1  (fun v' e => ih v' (h2 v' e)) (fun x e => h3 x e) w hl
set_option maxRecDepth 100000 in
set_option maxHeartbeats 4000000 in
theorem B_X12_cut_7 {H : Heap} {locs : List Loc} {ls : Array Slot} {σ0 : hSt} (a0 : Nat) (l1 : Int32) (σ : hSt) (G : Gx p m c cX12_cut 8 s args RX12 D ay NM ad (aN NM ad)) (hm : meth.sig.returnType = none ∧ meth.locks = false) (ok_a0 : okr kM NM 12 a0 = true) (hf : F_X12_cut_7 a0 l1 σ = some σ0)  (w : Wd D ay kM NM ad (aN NM ad) s σ H locs) (hl : lv_has ls 8 [(0, .ref (ad a0)), (1, .int l1)]) : W p l e (rmK 2 49) s m args below meth c H locs 0 0 (MQ below (cV D ay kM NM ad σ0) args s 0 0 (aN NM ad)) (F0 m 7 ls []) := by
  unfold F_X12_cut_7 at hf
  exact H_X12_cut_7 a0  G hm ok_a0  fuel (l1, σ) hf _ _ _ w hl
set_option maxRecDepth 100000 in
set_option maxHeartbeats 4000000 in
theorem B_X12_cut_0 {H : Heap} {locs : List Loc} {ls : Array Slot} {σ0 : hSt} (a0 : Nat) (σ : hSt) (G : Gx p m c cX12_cut 8 s args RX12 D ay NM ad (aN NM ad)) (hm : meth.sig.returnType = none ∧ meth.locks = false) (ok_a0 : okr kM NM 12 a0 = true) (hf : F_X12_cut a0 σ = some σ0)  (w : Wd D ay kM NM ad (aN NM ad) s σ H locs) (hl : lv_has ls 8 [(0, .ref (ad a0))]) : W p l e (rmK 2 49) s m args below meth c H locs 0 0 (MQ below (cV D ay kM NM ad σ0) args s 0 0 (aN NM ad)) (F0 m 0 ls []) := by
  have k_a0 := okr_in ok_a0
  unfold F_X12_cut at hf
  refine lv_aload_n G.hx G.hb (dcs_get dec_X12_cut_0 0 rfl) rfl (lv_at hl 0 rfl) ?_
  refine lv_iconst (v := (0 : Int32)) G.hx G.hb (dcs_get dec_X12_cut_0 1 rfl) (by decide) ?_
  obtain ⟨σ43, e_σ43, hf⟩ := cL_some hf
  refine r_puti (k := 10) cls12 ct12 fi_12_10.1 fi_12_10.2 fp_12_10.1 fp_12_10.2 q_1018 rfl rfl G w k_a0.1 k_a0.2 (dcs_get dec_X12_cut_0 2 rfl) (fun H locs w => ?_)
  have w := Wd.nm e_σ43 w
  refine lv_iconst (v := (0 : Int32)) G.hx G.hb (dcs_get dec_X12_cut_0 3 rfl) (by decide) ?_
  refine lv_istore_n (lv' := [(1, .int (0 : Int32)), (0, .ref (ad a0))]) G.hx G.hb (dcs_get dec_X12_cut_0 4 rfl) rfl hl (by decide) rfl (fun ls hl => ?_)
  exact B_X12_cut_7 a0 (0 : Int32) σ43 G hm ok_a0 hf  w (lv_sub hl [1, 0] rfl)
end
set_option maxRecDepth 100000 in
set_option maxHeartbeats 4000000 in
theorem C_X12_cut {l : Launch} {D : va_G} {ay : Nat → ClassId} {ad : Nat → Nat} (hi : hInj NM ad) (a0 : Nat) (σ : hSt) {σ0 : hSt} (hf : F_X12_cut a0 σ = some σ0) (ok_a0 : okr kM NM 12 a0 = true) : hM l D ay kM NM ad yX12_cut cX12_cut 8 (none) (rmK 2 49) [.ref (ad a0)] σ (cV D ay kM NM ad σ0) := by
  refine hM_in (by decide) hi (Nat.le_of_ble_eq_true rfl) ?_
  intro p e s m below meth c G hm w ls hl
  exact B_X12_cut_0 a0 σ G hm ok_a0 hf w (lv_sub hl [0] rfl)

/-! HillDrumsModel.is(I)Z -/
def DL_X12_is_0 : List (Nat × Instr × Nat) := [(0, .aload_n 0, 1), (1, .getfield 206, 3), (4, .ifCond .ne 20, 3), (7, .aload_n 0, 1), (8, .getfield 20, 3), (11, .aload_n 0, 1), (12, .getfield 209, 3), (15, .iaload, 1), (16, .iload_n 1, 1), (17, .if_icmp .ne 7, 3), (20, .iconst 1, 1), (21, .goto 4, 3), (24, .iconst 0, 1), (25, .ireturn, 1)]
set_option maxRecDepth 100000 in
theorem dec_X12_is_0 : dcs cX12_is DL_X12_is_0 = true := by decide +kernel
theorem lb_X12_is : lkB yX12_is cX12_is 2 ((some .boolean)) 1 := ⟨q_1257, q_14, ⟨by decide, by decide⟩, by decide +kernel⟩
theorem lv_X12_is : lkV yX12_is := ⟨q_1256, qs_72⟩
def F_X12_is_25 (s0 : Int32) (σ : hSt) : Option (Int32) :=
cG (isB s0) <|
some (s0)
def F_X12_is_24  (σ : hSt) : Option (Int32) :=
F_X12_is_25 (0 : Int32) σ
def F_X12_is (a0 : Nat) (l1 : Int32) (σ : hSt) : Option (Int32) :=
if (σ.1 a0 13) = 0 then (
cR (σ.2.2 a0 5) (okr kM NM 101) fun z2 =>
cG (inb (σ.1 a0 11) (kM z2).2) <|
if (σ.1 z2 (σ.1 a0 11).toNatClampNeg) = l1 then (
F_X12_is_25 (1 : Int32) σ) else (
F_X12_is_24  σ)) else (
F_X12_is_24  σ)
section
variable {p : Program} {l : Launch} {e : Env} {s : State} {m : MethodId} {args : Array Value} {below : List Frame} {meth : Method} {c : Code} {D : va_G} {ay : Nat → ClassId} {ad : Nat → Nat}
set_option maxRecDepth 100000 in
set_option maxHeartbeats 4000000 in
theorem B_X12_is_25 {H : Heap} {locs : List Loc} {ls : Array Slot} {r0 : Int32} (s0 : Int32) (σ : hSt) (G : Gx p m c cX12_is 2 s args RX12 D ay NM ad (aN NM ad)) (hm : meth.sig.returnType = (some .boolean) ∧ meth.locks = false)  (hf : F_X12_is_25 s0 σ = some r0)  (w : Wd D ay kM NM ad (aN NM ad) s σ H locs) (hl : lv_has ls 2 []) : W p l e (rmK 0 0) s m args below meth c H locs 0 0 (MQ below (cI D ay kM NM ad r0 σ) args s 0 0 (aN NM ad)) (F0 m 25 ls [.int s0]) := by
  unfold F_X12_is_25 at hf
  obtain ⟨h1, hf⟩ := cG_some hf
  have e9 := Option.some.inj hf
  exact r_zret (isB_nar h1) G w hm e9 rfl (dcs_get dec_X12_is_0 13 rfl)
set_option maxRecDepth 100000 in
set_option maxHeartbeats 4000000 in
theorem B_X12_is_24 {H : Heap} {locs : List Loc} {ls : Array Slot} {r0 : Int32}  (σ : hSt) (G : Gx p m c cX12_is 2 s args RX12 D ay NM ad (aN NM ad)) (hm : meth.sig.returnType = (some .boolean) ∧ meth.locks = false)  (hf : F_X12_is_24  σ = some r0)  (w : Wd D ay kM NM ad (aN NM ad) s σ H locs) (hl : lv_has ls 2 []) : W p l e (rmK 0 0) s m args below meth c H locs 0 0 (MQ below (cI D ay kM NM ad r0 σ) args s 0 0 (aN NM ad)) (F0 m 24 ls []) := by
  unfold F_X12_is_24 at hf
  refine lv_iconst (v := (0 : Int32)) G.hx G.hb (dcs_get dec_X12_is_0 12 rfl) (by decide) ?_
  exact B_X12_is_25 (0 : Int32) σ G hm  hf  w (lv_sub hl [] rfl)
set_option maxRecDepth 100000 in
set_option maxHeartbeats 4000000 in
theorem B_X12_is_0 {H : Heap} {locs : List Loc} {ls : Array Slot} {r0 : Int32} (a0 : Nat) (l1 : Int32) (σ : hSt) (G : Gx p m c cX12_is 2 s args RX12 D ay NM ad (aN NM ad)) (hm : meth.sig.returnType = (some .boolean) ∧ meth.locks = false) (ok_a0 : okr kM NM 12 a0 = true) (hf : F_X12_is a0 l1 σ = some r0)  (w : Wd D ay kM NM ad (aN NM ad) s σ H locs) (hl : lv_has ls 2 [(0, .ref (ad a0)), (1, .int l1)]) : W p l e (rmK 0 0) s m args below meth c H locs 0 0 (MQ below (cI D ay kM NM ad r0 σ) args s 0 0 (aN NM ad)) (F0 m 0 ls []) := by
  have k_a0 := okr_in ok_a0
  unfold F_X12_is at hf
  refine lv_aload_n G.hx G.hb (dcs_get dec_X12_is_0 0 rfl) rfl (lv_at hl 0 rfl) ?_
  refine r_geti (k := 13) cls12 fi_12_13.1 fi_12_13.2 q_1021 G w k_a0.1 k_a0.2 (dcs_get dec_X12_is_0 1 rfl) ?_
  refine lv_if_ne (tgt := 24) G.hx G.hb (dcs_get dec_X12_is_0 2 rfl) (by decide) (fun hc => ?_) (fun hc => ?_)
  · rw [if_neg hc] at hf
    exact B_X12_is_24  σ G hm  hf  w (lv_sub hl [] rfl)
  · rw [if_pos hc] at hf
    refine lv_aload_n G.hx G.hb (dcs_get dec_X12_is_0 3 rfl) rfl (lv_at hl 0 rfl) ?_
    obtain ⟨z2, e_z2, ok_z2, hf⟩ := cR_some hf
    have k_z2 := okr_in ok_z2
    refine r_getr (k := 5) cls12 fi_12_5.1 fi_12_5.2 q_1013 G w k_a0.1 k_a0.2 e_z2 (dcs_get dec_X12_is_0 4 rfl) ?_
    refine lv_aload_n G.hx G.hb (dcs_get dec_X12_is_0 5 rfl) rfl (lv_at hl 0 rfl) ?_
    refine r_geti (k := 11) cls12 fi_12_11.1 fi_12_11.2 q_1019 G w k_a0.1 k_a0.2 (dcs_get dec_X12_is_0 6 rfl) ?_
    obtain ⟨h3, hf⟩ := cG_some hf
    refine r_iald G w k_z2.1 k_z2.2 h3 (dcs_get dec_X12_is_0 7 rfl) ?_
    refine lv_iload_n G.hx G.hb (dcs_get dec_X12_is_0 8 rfl) rfl (lv_at hl 1 rfl) ?_
    refine lv_icmp_ne (tgt := 24) G.hx G.hb (dcs_get dec_X12_is_0 9 rfl) (by decide) (fun hc => ?_) (fun hc => ?_)
    · rw [if_neg hc] at hf
      exact B_X12_is_24  σ G hm  hf  w (lv_sub hl [] rfl)
    · rw [if_pos hc] at hf
      refine lv_iconst (v := (1 : Int32)) G.hx G.hb (dcs_get dec_X12_is_0 10 rfl) (by decide) ?_
      refine lv_goto (tgt := 25) G.hx G.hb (dcs_get dec_X12_is_0 11 rfl) (by decide) ?_
      exact B_X12_is_25 (1 : Int32) σ G hm  hf  w (lv_sub hl [] rfl)
end
set_option maxRecDepth 100000 in
set_option maxHeartbeats 4000000 in
theorem C_X12_is {l : Launch} {D : va_G} {ay : Nat → ClassId} {ad : Nat → Nat} (hi : hInj NM ad) (a0 : Nat) (l1 : Int32) (σ : hSt) {r0 : Int32} (hf : F_X12_is a0 l1 σ = some r0) (ok_a0 : okr kM NM 12 a0 = true) : hM l D ay kM NM ad yX12_is cX12_is 2 ((some .boolean)) (rmK 0 0) [.ref (ad a0), .int l1] σ (cI D ay kM NM ad r0 σ) := by
  refine hM_in (by decide) hi (Nat.le_of_ble_eq_true rfl) ?_
  intro p e s m below meth c G hm w ls hl
  exact B_X12_is_0 a0 l1 σ G hm ok_a0 hf w (lv_sub hl [0, 1] rfl)

/-! HillDrumsModel.fail(I)V -/
def DL_X12_fail_0 : List (Nat × Instr × Nat) := [(0, .aload_n 0, 1), (1, .getfield 206, 3), (4, .ifCond .le 4, 3), (7, .return_, 1), (8, .aload_n 0, 1), (9, .iload_n 1, 1), (10, .putfield 206, 3), (13, .aload_n 0, 1), (14, .aload_n 0, 1), (15, .getfield 24, 3), (18, .aload_n 0, 1), (19, .getfield 209, 3), (22, .iaload, 1), (23, .putfield 212, 3), (26, .return_, 1)]
set_option maxRecDepth 100000 in
theorem dec_X12_fail_0 : dcs cX12_fail DL_X12_fail_0 = true := by decide +kernel
theorem lb_X12_fail : lkB yX12_fail cX12_fail 2 (none) 1 := ⟨q_1269, q_14, ⟨by decide, by decide⟩, by decide +kernel⟩
theorem lv_X12_fail : lkV yX12_fail := ⟨q_1268, qs_75⟩
def F_X12_fail (a0 : Nat) (l1 : Int32) (σ : hSt) : Option (hSt) :=
if (σ.1 a0 13) ≤ 0 then (
cL (uI σ a0 13 l1) fun σ1 =>
cR (σ1.2.2 a0 6) (okr kM NM 101) fun z2 =>
cG (inb (σ1.1 a0 11) (kM z2).2) <|
cL (uI σ1 a0 14 (σ1.1 z2 (σ1.1 a0 11).toNatClampNeg)) fun σ4 =>
some (σ4)) else (
some (σ))
section
variable {p : Program} {l : Launch} {e : Env} {s : State} {m : MethodId} {args : Array Value} {below : List Frame} {meth : Method} {c : Code} {D : va_G} {ay : Nat → ClassId} {ad : Nat → Nat}
set_option maxRecDepth 100000 in
set_option maxHeartbeats 4000000 in
theorem B_X12_fail_0 {H : Heap} {locs : List Loc} {ls : Array Slot} {σ0 : hSt} (a0 : Nat) (l1 : Int32) (σ : hSt) (G : Gx p m c cX12_fail 2 s args RX12 D ay NM ad (aN NM ad)) (hm : meth.sig.returnType = none ∧ meth.locks = false) (ok_a0 : okr kM NM 12 a0 = true) (hf : F_X12_fail a0 l1 σ = some σ0)  (w : Wd D ay kM NM ad (aN NM ad) s σ H locs) (hl : lv_has ls 2 [(0, .ref (ad a0)), (1, .int l1)]) : W p l e (rmK 0 0) s m args below meth c H locs 0 0 (MQ below (cV D ay kM NM ad σ0) args s 0 0 (aN NM ad)) (F0 m 0 ls []) := by
  have k_a0 := okr_in ok_a0
  unfold F_X12_fail at hf
  refine lv_aload_n G.hx G.hb (dcs_get dec_X12_fail_0 0 rfl) rfl (lv_at hl 0 rfl) ?_
  refine r_geti (k := 13) cls12 fi_12_13.1 fi_12_13.2 q_1021 G w k_a0.1 k_a0.2 (dcs_get dec_X12_fail_0 1 rfl) ?_
  refine lv_if_le (tgt := 8) G.hx G.hb (dcs_get dec_X12_fail_0 2 rfl) (by decide) (fun hc => ?_) (fun hc => ?_)
  · rw [if_pos hc] at hf
    refine lv_aload_n G.hx G.hb (dcs_get dec_X12_fail_0 4 rfl) rfl (lv_at hl 0 rfl) ?_
    refine lv_iload_n G.hx G.hb (dcs_get dec_X12_fail_0 5 rfl) rfl (lv_at hl 1 rfl) ?_
    obtain ⟨σ1, e_σ1, hf⟩ := cL_some hf
    refine r_puti (k := 13) cls12 ct12 fi_12_13.1 fi_12_13.2 fp_12_13.1 fp_12_13.2 q_1021 rfl rfl G w k_a0.1 k_a0.2 (dcs_get dec_X12_fail_0 6 rfl) (fun H locs w => ?_)
    have w := Wd.nm e_σ1 w
    refine lv_aload_n G.hx G.hb (dcs_get dec_X12_fail_0 7 rfl) rfl (lv_at hl 0 rfl) ?_
    refine lv_aload_n G.hx G.hb (dcs_get dec_X12_fail_0 8 rfl) rfl (lv_at hl 0 rfl) ?_
    obtain ⟨z2, e_z2, ok_z2, hf⟩ := cR_some hf
    have k_z2 := okr_in ok_z2
    refine r_getr (k := 6) cls12 fi_12_6.1 fi_12_6.2 q_1014 G w k_a0.1 k_a0.2 e_z2 (dcs_get dec_X12_fail_0 9 rfl) ?_
    refine lv_aload_n G.hx G.hb (dcs_get dec_X12_fail_0 10 rfl) rfl (lv_at hl 0 rfl) ?_
    refine r_geti (k := 11) cls12 fi_12_11.1 fi_12_11.2 q_1019 G w k_a0.1 k_a0.2 (dcs_get dec_X12_fail_0 11 rfl) ?_
    obtain ⟨h3, hf⟩ := cG_some hf
    refine r_iald G w k_z2.1 k_z2.2 h3 (dcs_get dec_X12_fail_0 12 rfl) ?_
    obtain ⟨σ4, e_σ4, hf⟩ := cL_some hf
    refine r_puti (k := 14) cls12 ct12 fi_12_14.1 fi_12_14.2 fp_12_14.1 fp_12_14.2 q_1022 rfl rfl G w k_a0.1 k_a0.2 (dcs_get dec_X12_fail_0 13 rfl) (fun H locs w => ?_)
    have w := Wd.nm e_σ4 w
    have e9 := Option.some.inj hf
    exact r_vret G w hm e9 (dcs_get dec_X12_fail_0 14 rfl)
  · rw [if_neg hc] at hf
    have e9 := Option.some.inj hf
    exact r_vret G w hm e9 (dcs_get dec_X12_fail_0 3 rfl)
end
set_option maxRecDepth 100000 in
set_option maxHeartbeats 4000000 in
theorem C_X12_fail {l : Launch} {D : va_G} {ay : Nat → ClassId} {ad : Nat → Nat} (hi : hInj NM ad) (a0 : Nat) (l1 : Int32) (σ : hSt) {σ0 : hSt} (hf : F_X12_fail a0 l1 σ = some σ0) (ok_a0 : okr kM NM 12 a0 = true) : hM l D ay kM NM ad yX12_fail cX12_fail 2 (none) (rmK 0 0) [.ref (ad a0), .int l1] σ (cV D ay kM NM ad σ0) := by
  refine hM_in (by decide) hi (Nat.le_of_ble_eq_true rfl) ?_
  intro p e s m below meth c G hm w ls hl
  exact B_X12_fail_0 a0 l1 σ G hm ok_a0 hf w (lv_sub hl [0, 1] rfl)

/-! HillDrumsModel.wrong(II)V -/
def DL_X12_wrong_0 : List (Nat × Instr × Nat) := [(0, .aload_n 0, 1), (1, .getfield 24, 3), (4, .iload_n 2, 1), (5, .iaload, 1), (6, .istore_n 3, 1), (7, .aload_n 0, 1), (8, .getfield 206, 3), (11, .ifCond .gt 34, 3), (14, .aload_n 0, 1), (15, .getfield 215, 3), (18, .ifCond .eq 28, 3), (21, .iload_n 3, 1), (22, .aload_n 0, 1), (23, .getfield 218, 3), (26, .if_icmp .gt 19, 3), (29, .iload_n 3, 1), (30, .aload_n 0, 1), (31, .getfield 218, 3), (34, .if_icmp .ne 12, 3), (37, .iload_n 1, 1), (38, .aload_n 0, 1), (39, .getfield 215, 3), (42, .if_icmp .lt 4, 3), (45, .return_, 1), (46, .aload_n 0, 1), (47, .iload_n 1, 1), (48, .putfield 215, 3), (51, .aload_n 0, 1), (52, .iload_n 3, 1), (53, .putfield 218, 3), (56, .return_, 1)]
set_option maxRecDepth 100000 in
theorem dec_X12_wrong_0 : dcs cX12_wrong DL_X12_wrong_0 = true := by decide +kernel
theorem lb_X12_wrong : lkB yX12_wrong cX12_wrong 4 (none) 2 := ⟨q_1289, q_14, ⟨by decide, by decide⟩, by decide +kernel⟩
theorem lv_X12_wrong : lkV yX12_wrong := ⟨q_1288, qs_80⟩
def F_X12_wrong_45  (σ : hSt) : Option (hSt) :=
some (σ)
def F_X12_wrong_46 (a0 : Nat) (l1 : Int32) (l3 : Int32) (σ : hSt) : Option (hSt) :=
cL (uI σ a0 15 l1) fun σ1 =>
cL (uI σ1 a0 16 l3) fun σ2 =>
some (σ2)
def F_X12_wrong (a0 : Nat) (l1 : Int32) (l2 : Int32) (σ : hSt) : Option (hSt) :=
cR (σ.2.2 a0 6) (okr kM NM 101) fun z3 =>
cG (inb l2 (kM z3).2) <|
cL (σ.1 z3 l2.toNatClampNeg) fun v5 =>
if 0 < (σ.1 a0 13) then (
F_X12_wrong_45  σ) else (
if (σ.1 a0 15) = 0 then (
F_X12_wrong_46 a0 l1 v5 σ) else (
if (σ.1 a0 16) < v5 then (
F_X12_wrong_45  σ) else (
if v5 = (σ.1 a0 16) then (
if l1 < (σ.1 a0 15) then (
F_X12_wrong_46 a0 l1 v5 σ) else (
F_X12_wrong_45  σ)) else (
F_X12_wrong_46 a0 l1 v5 σ))))
section
variable {p : Program} {l : Launch} {e : Env} {s : State} {m : MethodId} {args : Array Value} {below : List Frame} {meth : Method} {c : Code} {D : va_G} {ay : Nat → ClassId} {ad : Nat → Nat}
set_option maxRecDepth 100000 in
set_option maxHeartbeats 4000000 in
theorem B_X12_wrong_45 {H : Heap} {locs : List Loc} {ls : Array Slot} {σ0 : hSt}  (σ : hSt) (G : Gx p m c cX12_wrong 4 s args RX12 D ay NM ad (aN NM ad)) (hm : meth.sig.returnType = none ∧ meth.locks = false)  (hf : F_X12_wrong_45  σ = some σ0)  (w : Wd D ay kM NM ad (aN NM ad) s σ H locs) (hl : lv_has ls 4 []) : W p l e (rmK 0 0) s m args below meth c H locs 0 0 (MQ below (cV D ay kM NM ad σ0) args s 0 0 (aN NM ad)) (F0 m 45 ls []) := by
  unfold F_X12_wrong_45 at hf
  have e9 := Option.some.inj hf
  exact r_vret G w hm e9 (dcs_get dec_X12_wrong_0 23 rfl)
set_option maxRecDepth 100000 in
set_option maxHeartbeats 4000000 in
theorem B_X12_wrong_46 {H : Heap} {locs : List Loc} {ls : Array Slot} {σ0 : hSt} (a0 : Nat) (l1 : Int32) (l3 : Int32) (σ : hSt) (G : Gx p m c cX12_wrong 4 s args RX12 D ay NM ad (aN NM ad)) (hm : meth.sig.returnType = none ∧ meth.locks = false) (ok_a0 : okr kM NM 12 a0 = true) (hf : F_X12_wrong_46 a0 l1 l3 σ = some σ0)  (w : Wd D ay kM NM ad (aN NM ad) s σ H locs) (hl : lv_has ls 4 [(0, .ref (ad a0)), (1, .int l1), (3, .int l3)]) : W p l e (rmK 0 0) s m args below meth c H locs 0 0 (MQ below (cV D ay kM NM ad σ0) args s 0 0 (aN NM ad)) (F0 m 46 ls []) := by
  have k_a0 := okr_in ok_a0
  unfold F_X12_wrong_46 at hf
  refine lv_aload_n G.hx G.hb (dcs_get dec_X12_wrong_0 24 rfl) rfl (lv_at hl 0 rfl) ?_
  refine lv_iload_n G.hx G.hb (dcs_get dec_X12_wrong_0 25 rfl) rfl (lv_at hl 1 rfl) ?_
  obtain ⟨σ1, e_σ1, hf⟩ := cL_some hf
  refine r_puti (k := 15) cls12 ct12 fi_12_15.1 fi_12_15.2 fp_12_15.1 fp_12_15.2 q_1023 rfl rfl G w k_a0.1 k_a0.2 (dcs_get dec_X12_wrong_0 26 rfl) (fun H locs w => ?_)
  have w := Wd.nm e_σ1 w
  refine lv_aload_n G.hx G.hb (dcs_get dec_X12_wrong_0 27 rfl) rfl (lv_at hl 0 rfl) ?_
  refine lv_iload_n G.hx G.hb (dcs_get dec_X12_wrong_0 28 rfl) rfl (lv_at hl 2 rfl) ?_
  obtain ⟨σ2, e_σ2, hf⟩ := cL_some hf
  refine r_puti (k := 16) cls12 ct12 fi_12_16.1 fi_12_16.2 fp_12_16.1 fp_12_16.2 q_1024 rfl rfl G w k_a0.1 k_a0.2 (dcs_get dec_X12_wrong_0 29 rfl) (fun H locs w => ?_)
  have w := Wd.nm e_σ2 w
  have e9 := Option.some.inj hf
  exact r_vret G w hm e9 (dcs_get dec_X12_wrong_0 30 rfl)
set_option maxRecDepth 100000 in
set_option maxHeartbeats 4000000 in
theorem B_X12_wrong_0 {H : Heap} {locs : List Loc} {ls : Array Slot} {σ0 : hSt} (a0 : Nat) (l1 : Int32) (l2 : Int32) (σ : hSt) (G : Gx p m c cX12_wrong 4 s args RX12 D ay NM ad (aN NM ad)) (hm : meth.sig.returnType = none ∧ meth.locks = false) (ok_a0 : okr kM NM 12 a0 = true) (hf : F_X12_wrong a0 l1 l2 σ = some σ0)  (w : Wd D ay kM NM ad (aN NM ad) s σ H locs) (hl : lv_has ls 4 [(0, .ref (ad a0)), (1, .int l1), (2, .int l2)]) : W p l e (rmK 0 0) s m args below meth c H locs 0 0 (MQ below (cV D ay kM NM ad σ0) args s 0 0 (aN NM ad)) (F0 m 0 ls []) := by
  have k_a0 := okr_in ok_a0
  unfold F_X12_wrong at hf
  refine lv_aload_n G.hx G.hb (dcs_get dec_X12_wrong_0 0 rfl) rfl (lv_at hl 0 rfl) ?_
  obtain ⟨z3, e_z3, ok_z3, hf⟩ := cR_some hf
  have k_z3 := okr_in ok_z3
  refine r_getr (k := 6) cls12 fi_12_6.1 fi_12_6.2 q_1014 G w k_a0.1 k_a0.2 e_z3 (dcs_get dec_X12_wrong_0 1 rfl) ?_
  refine lv_iload_n G.hx G.hb (dcs_get dec_X12_wrong_0 2 rfl) rfl (lv_at hl 2 rfl) ?_
  obtain ⟨h4, hf⟩ := cG_some hf
  refine r_iald G w k_z3.1 k_z3.2 h4 (dcs_get dec_X12_wrong_0 3 rfl) ?_
  obtain ⟨v5, e_v5, hf⟩ := cL_some hf
  refine r_topi e_v5 ?_
  refine lv_istore_n (lv' := [(3, .int v5), (0, .ref (ad a0)), (1, .int l1), (2, .int l2)]) G.hx G.hb (dcs_get dec_X12_wrong_0 4 rfl) rfl hl (by decide) rfl (fun ls hl => ?_)
  refine lv_aload_n G.hx G.hb (dcs_get dec_X12_wrong_0 5 rfl) rfl (lv_at hl 1 rfl) ?_
  refine r_geti (k := 13) cls12 fi_12_13.1 fi_12_13.2 q_1021 G w k_a0.1 k_a0.2 (dcs_get dec_X12_wrong_0 6 rfl) ?_
  refine lv_if_gt (tgt := 45) G.hx G.hb (dcs_get dec_X12_wrong_0 7 rfl) (by decide) (fun hc => ?_) (fun hc => ?_)
  · rw [if_pos hc] at hf
    exact B_X12_wrong_45  σ G hm  hf  w (lv_sub hl [] rfl)
  · rw [if_neg hc] at hf
    refine lv_aload_n G.hx G.hb (dcs_get dec_X12_wrong_0 8 rfl) rfl (lv_at hl 1 rfl) ?_
    refine r_geti (k := 15) cls12 fi_12_15.1 fi_12_15.2 q_1023 G w k_a0.1 k_a0.2 (dcs_get dec_X12_wrong_0 9 rfl) ?_
    refine lv_if_eq (tgt := 46) G.hx G.hb (dcs_get dec_X12_wrong_0 10 rfl) (by decide) (fun hc => ?_) (fun hc => ?_)
    · rw [if_pos hc] at hf
      exact B_X12_wrong_46 a0 l1 v5 σ G hm ok_a0 hf  w (lv_sub hl [1, 2, 0] rfl)
    · rw [if_neg hc] at hf
      refine lv_iload_n G.hx G.hb (dcs_get dec_X12_wrong_0 11 rfl) rfl (lv_at hl 0 rfl) ?_
      refine lv_aload_n G.hx G.hb (dcs_get dec_X12_wrong_0 12 rfl) rfl (lv_at hl 1 rfl) ?_
      refine r_geti (k := 16) cls12 fi_12_16.1 fi_12_16.2 q_1024 G w k_a0.1 k_a0.2 (dcs_get dec_X12_wrong_0 13 rfl) ?_
      refine lv_icmp_gt (tgt := 45) G.hx G.hb (dcs_get dec_X12_wrong_0 14 rfl) (by decide) (fun hc => ?_) (fun hc => ?_)
      · rw [if_pos hc] at hf
        exact B_X12_wrong_45  σ G hm  hf  w (lv_sub hl [] rfl)
      · rw [if_neg hc] at hf
        refine lv_iload_n G.hx G.hb (dcs_get dec_X12_wrong_0 15 rfl) rfl (lv_at hl 0 rfl) ?_
        refine lv_aload_n G.hx G.hb (dcs_get dec_X12_wrong_0 16 rfl) rfl (lv_at hl 1 rfl) ?_
        refine r_geti (k := 16) cls12 fi_12_16.1 fi_12_16.2 q_1024 G w k_a0.1 k_a0.2 (dcs_get dec_X12_wrong_0 17 rfl) ?_
        refine lv_icmp_ne (tgt := 46) G.hx G.hb (dcs_get dec_X12_wrong_0 18 rfl) (by decide) (fun hc => ?_) (fun hc => ?_)
        · rw [if_neg hc] at hf
          exact B_X12_wrong_46 a0 l1 v5 σ G hm ok_a0 hf  w (lv_sub hl [1, 2, 0] rfl)
        · rw [if_pos hc] at hf
          refine lv_iload_n G.hx G.hb (dcs_get dec_X12_wrong_0 19 rfl) rfl (lv_at hl 2 rfl) ?_
          refine lv_aload_n G.hx G.hb (dcs_get dec_X12_wrong_0 20 rfl) rfl (lv_at hl 1 rfl) ?_
          refine r_geti (k := 15) cls12 fi_12_15.1 fi_12_15.2 q_1023 G w k_a0.1 k_a0.2 (dcs_get dec_X12_wrong_0 21 rfl) ?_
          refine lv_icmp_lt (tgt := 46) G.hx G.hb (dcs_get dec_X12_wrong_0 22 rfl) (by decide) (fun hc => ?_) (fun hc => ?_)
          · rw [if_pos hc] at hf
            exact B_X12_wrong_46 a0 l1 v5 σ G hm ok_a0 hf  w (lv_sub hl [1, 2, 0] rfl)
          · rw [if_neg hc] at hf
            exact B_X12_wrong_45  σ G hm  hf  w (lv_sub hl [] rfl)
end
set_option maxRecDepth 100000 in
set_option maxHeartbeats 4000000 in
theorem C_X12_wrong {l : Launch} {D : va_G} {ay : Nat → ClassId} {ad : Nat → Nat} (hi : hInj NM ad) (a0 : Nat) (l1 : Int32) (l2 : Int32) (σ : hSt) {σ0 : hSt} (hf : F_X12_wrong a0 l1 l2 σ = some σ0) (ok_a0 : okr kM NM 12 a0 = true) : hM l D ay kM NM ad yX12_wrong cX12_wrong 4 (none) (rmK 0 0) [.ref (ad a0), .int l1, .int l2] σ (cV D ay kM NM ad σ0) := by
  refine hM_in (by decide) hi (Nat.le_of_ble_eq_true rfl) ?_
  intro p e s m below meth c G hm w ls hl
  exact B_X12_wrong_0 a0 l1 l2 σ G hm ok_a0 hf w (lv_sub hl [0, 1, 2] rfl)

/-! HillDrumsModel.goesOn()V -/
def DL_X12_goesOn_0 : List (Nat × Instr × Nat) := [(0, .aload_n 0, 1), (1, .getfield 209, 3), (4, .sipush 400, 3), (7, .if_icmp .ne 11, 3), (10, .aload_n 0, 1), (11, .iconst 2, 1), (12, .invokevirtual 221, 3), (15, .goto 13, 3), (18, .aload_n 0, 1), (19, .dup, 1), (20, .getfield 209, 3), (23, .iconst 1, 1), (24, .iadd, 1), (25, .putfield 209, 3), (28, .return_, 1)]
set_option maxRecDepth 100000 in
theorem dec_X12_goesOn_0 : dcs cX12_goesOn DL_X12_goesOn_0 = true := by decide +kernel
theorem lb_X12_goesOn : lkB yX12_goesOn cX12_goesOn 1 (none) 0 := ⟨q_1273, q_14, ⟨by decide, by decide⟩, by decide +kernel⟩
theorem lv_X12_goesOn : lkV yX12_goesOn := ⟨q_1272, qs_76⟩
def F_X12_goesOn_28  (σ : hSt) : Option (hSt) :=
some (σ)
def F_X12_goesOn (a0 : Nat) (σ : hSt) : Option (hSt) :=
if (σ.1 a0 11) = (400 : Int32) then (
(F_X12_fail a0 (2 : Int32) σ).bind fun σ3 =>
F_X12_goesOn_28  σ3) else (
cL (uI σ a0 11 ((σ.1 a0 11) + (1 : Int32))) fun σ1 =>
F_X12_goesOn_28  σ1)
section
variable {p : Program} {l : Launch} {e : Env} {s : State} {m : MethodId} {args : Array Value} {below : List Frame} {meth : Method} {c : Code} {D : va_G} {ay : Nat → ClassId} {ad : Nat → Nat}
set_option maxRecDepth 100000 in
set_option maxHeartbeats 4000000 in
theorem B_X12_goesOn_28 {H : Heap} {locs : List Loc} {ls : Array Slot} {σ0 : hSt}  (σ : hSt) (G : Gx p m c cX12_goesOn 1 s args RX12 D ay NM ad (aN NM ad)) (hm : meth.sig.returnType = none ∧ meth.locks = false)  (hf : F_X12_goesOn_28  σ = some σ0)  (w : Wd D ay kM NM ad (aN NM ad) s σ H locs) (hl : lv_has ls 1 []) : W p l e (rmK 1 21) s m args below meth c H locs 0 0 (MQ below (cV D ay kM NM ad σ0) args s 0 0 (aN NM ad)) (F0 m 28 ls []) := by
  unfold F_X12_goesOn_28 at hf
  have e9 := Option.some.inj hf
  exact r_vret G w hm e9 (dcs_get dec_X12_goesOn_0 14 rfl)
set_option maxRecDepth 100000 in
set_option maxHeartbeats 4000000 in
theorem B_X12_goesOn_0 {H : Heap} {locs : List Loc} {ls : Array Slot} {σ0 : hSt} (a0 : Nat) (σ : hSt) (G : Gx p m c cX12_goesOn 1 s args RX12 D ay NM ad (aN NM ad)) (hm : meth.sig.returnType = none ∧ meth.locks = false) (ok_a0 : okr kM NM 12 a0 = true) (hf : F_X12_goesOn a0 σ = some σ0)  (w : Wd D ay kM NM ad (aN NM ad) s σ H locs) (hl : lv_has ls 1 [(0, .ref (ad a0))]) : W p l e (rmK 1 21) s m args below meth c H locs 0 0 (MQ below (cV D ay kM NM ad σ0) args s 0 0 (aN NM ad)) (F0 m 0 ls []) := by
  have k_a0 := okr_in ok_a0
  unfold F_X12_goesOn at hf
  refine lv_aload_n G.hx G.hb (dcs_get dec_X12_goesOn_0 0 rfl) rfl (lv_at hl 0 rfl) ?_
  refine r_geti (k := 11) cls12 fi_12_11.1 fi_12_11.2 q_1019 G w k_a0.1 k_a0.2 (dcs_get dec_X12_goesOn_0 1 rfl) ?_
  refine lv_sipush (v := (400 : Int32)) G.hx G.hb (dcs_get dec_X12_goesOn_0 2 rfl) (by decide) ?_
  refine lv_icmp_ne (tgt := 18) G.hx G.hb (dcs_get dec_X12_goesOn_0 3 rfl) (by decide) (fun hc => ?_) (fun hc => ?_)
  · rw [if_neg hc] at hf
    refine lv_aload_n G.hx G.hb (dcs_get dec_X12_goesOn_0 8 rfl) rfl (lv_at hl 0 rfl) ?_
    refine lv_dup G.hx G.hb (dcs_get dec_X12_goesOn_0 9 rfl) rfl ?_
    refine r_geti (k := 11) cls12 fi_12_11.1 fi_12_11.2 q_1019 G w k_a0.1 k_a0.2 (dcs_get dec_X12_goesOn_0 10 rfl) ?_
    refine lv_iconst (v := (1 : Int32)) G.hx G.hb (dcs_get dec_X12_goesOn_0 11 rfl) (by decide) ?_
    refine lv_iadd G.hx G.hb (dcs_get dec_X12_goesOn_0 12 rfl) ?_
    obtain ⟨σ1, e_σ1, hf⟩ := cL_some hf
    refine r_puti (k := 11) cls12 ct12 fi_12_11.1 fi_12_11.2 fp_12_11.1 fp_12_11.2 q_1019 rfl rfl G w k_a0.1 k_a0.2 (dcs_get dec_X12_goesOn_0 13 rfl) (fun H locs w => ?_)
    have w := Wd.nm e_σ1 w
    exact B_X12_goesOn_28  σ1 G hm  hf  w (lv_sub hl [] rfl)
  · rw [if_pos hc] at hf
    refine lv_aload_n G.hx G.hb (dcs_get dec_X12_goesOn_0 4 rfl) rfl (lv_at hl 0 rfl) ?_
    refine lv_iconst (v := (2 : Int32)) G.hx G.hb (dcs_get dec_X12_goesOn_0 5 rfl) (by decide) ?_
    obtain ⟨σ3, h2, hf⟩ := cB_some hf
    refine a_v (k_V (As := [.int (2 : Int32)]) (rest := []) cls12 lb_X12_fail lv_X12_fail q_1266 (C_X12_fail G.2.2.1 a0 (2 : Int32) σ h2 ok_a0) ⟨(Nat.le_of_ble_eq_true rfl), (Nat.le_of_ble_eq_true rfl)⟩ G w k_a0.1 k_a0.2 rfl rfl hl.1 (Nat.le_of_ble_eq_true rfl) (dcs_get dec_X12_goesOn_0 6 rfl) ⟨Nat.le_refl _, Nat.le_refl _⟩) G w (fun H locs w => ?_)
    refine lv_goto (tgt := 28) G.hx G.hb (dcs_get dec_X12_goesOn_0 7 rfl) (by decide) ?_
    exact B_X12_goesOn_28  σ3 G hm  hf  w (lv_sub hl [] rfl)
end
set_option maxRecDepth 100000 in
set_option maxHeartbeats 4000000 in
theorem C_X12_goesOn {l : Launch} {D : va_G} {ay : Nat → ClassId} {ad : Nat → Nat} (hi : hInj NM ad) (a0 : Nat) (σ : hSt) {σ0 : hSt} (hf : F_X12_goesOn a0 σ = some σ0) (ok_a0 : okr kM NM 12 a0 = true) : hM l D ay kM NM ad yX12_goesOn cX12_goesOn 1 (none) (rmK 1 21) [.ref (ad a0)] σ (cV D ay kM NM ad σ0) := by
  refine hM_in (by decide) hi (Nat.le_of_ble_eq_true rfl) ?_
  intro p e s m below meth c G hm w ls hl
  exact B_X12_goesOn_0 a0 σ G hm ok_a0 hf w (lv_sub hl [0] rfl)

/-! HillDrumsModel.must(I)V -/
def DL_X12_must_0 : List (Nat × Instr × Nat) := [(0, .aload_n 0, 1), (1, .iload_n 1, 1), (2, .invokevirtual 224, 3), (5, .ifCond .eq 10, 3), (8, .aload_n 0, 1), (9, .invokevirtual 227, 3), (12, .goto 8, 3), (15, .aload_n 0, 1), (16, .iconst 1, 1), (17, .invokevirtual 221, 3), (20, .return_, 1)]
set_option maxRecDepth 100000 in
theorem dec_X12_must_0 : dcs cX12_must DL_X12_must_0 = true := by decide +kernel
theorem lb_X12_must : lkB yX12_must cX12_must 2 (none) 1 := ⟨q_1285, q_14, ⟨by decide, by decide⟩, by decide +kernel⟩
theorem lv_X12_must : lkV yX12_must := ⟨q_1284, qs_79⟩
def F_X12_must_20  (σ : hSt) : Option (hSt) :=
some (σ)
def F_X12_must (a0 : Nat) (l1 : Int32) (σ : hSt) : Option (hSt) :=
(F_X12_is a0 l1 σ).bind fun v2 =>
if v2 = 0 then (
(F_X12_fail a0 (1 : Int32) σ).bind fun σ4 =>
F_X12_must_20  σ4) else (
(F_X12_goesOn a0 σ).bind fun σ6 =>
F_X12_must_20  σ6)
section
variable {p : Program} {l : Launch} {e : Env} {s : State} {m : MethodId} {args : Array Value} {below : List Frame} {meth : Method} {c : Code} {D : va_G} {ay : Nat → ClassId} {ad : Nat → Nat}
set_option maxRecDepth 100000 in
set_option maxHeartbeats 4000000 in
theorem B_X12_must_20 {H : Heap} {locs : List Loc} {ls : Array Slot} {σ0 : hSt}  (σ : hSt) (G : Gx p m c cX12_must 2 s args RX12 D ay NM ad (aN NM ad)) (hm : meth.sig.returnType = none ∧ meth.locks = false)  (hf : F_X12_must_20  σ = some σ0)  (w : Wd D ay kM NM ad (aN NM ad) s σ H locs) (hl : lv_has ls 2 []) : W p l e (rmK 2 41) s m args below meth c H locs 0 0 (MQ below (cV D ay kM NM ad σ0) args s 0 0 (aN NM ad)) (F0 m 20 ls []) := by
  unfold F_X12_must_20 at hf
  have e9 := Option.some.inj hf
  exact r_vret G w hm e9 (dcs_get dec_X12_must_0 10 rfl)
set_option maxRecDepth 100000 in
set_option maxHeartbeats 4000000 in
theorem B_X12_must_0 {H : Heap} {locs : List Loc} {ls : Array Slot} {σ0 : hSt} (a0 : Nat) (l1 : Int32) (σ : hSt) (G : Gx p m c cX12_must 2 s args RX12 D ay NM ad (aN NM ad)) (hm : meth.sig.returnType = none ∧ meth.locks = false) (ok_a0 : okr kM NM 12 a0 = true) (hf : F_X12_must a0 l1 σ = some σ0)  (w : Wd D ay kM NM ad (aN NM ad) s σ H locs) (hl : lv_has ls 2 [(0, .ref (ad a0)), (1, .int l1)]) : W p l e (rmK 2 41) s m args below meth c H locs 0 0 (MQ below (cV D ay kM NM ad σ0) args s 0 0 (aN NM ad)) (F0 m 0 ls []) := by
  have k_a0 := okr_in ok_a0
  unfold F_X12_must at hf
  refine lv_aload_n G.hx G.hb (dcs_get dec_X12_must_0 0 rfl) rfl (lv_at hl 0 rfl) ?_
  refine lv_iload_n G.hx G.hb (dcs_get dec_X12_must_0 1 rfl) rfl (lv_at hl 1 rfl) ?_
  obtain ⟨v2, h1, hf⟩ := cB_some hf
  refine a_i (k_V (As := [.int l1]) (rest := []) cls12 lb_X12_is lv_X12_is q_1254 (C_X12_is G.2.2.1 a0 l1 σ h1 ok_a0) ⟨(Nat.le_of_ble_eq_true rfl), (Nat.le_of_ble_eq_true rfl)⟩ G w k_a0.1 k_a0.2 rfl rfl hl.1 (Nat.le_of_ble_eq_true rfl) (dcs_get dec_X12_must_0 2 rfl) ⟨Nat.le_refl _, Nat.le_refl _⟩) G w (fun H locs w => ?_)
  refine lv_if_eq (tgt := 15) G.hx G.hb (dcs_get dec_X12_must_0 3 rfl) (by decide) (fun hc => ?_) (fun hc => ?_)
  · rw [if_pos hc] at hf
    refine lv_aload_n G.hx G.hb (dcs_get dec_X12_must_0 7 rfl) rfl (lv_at hl 0 rfl) ?_
    refine lv_iconst (v := (1 : Int32)) G.hx G.hb (dcs_get dec_X12_must_0 8 rfl) (by decide) ?_
    obtain ⟨σ4, h3, hf⟩ := cB_some hf
    refine a_v (k_V (As := [.int (1 : Int32)]) (rest := []) cls12 lb_X12_fail lv_X12_fail q_1266 (C_X12_fail G.2.2.1 a0 (1 : Int32) σ h3 ok_a0) ⟨(Nat.le_of_ble_eq_true rfl), (Nat.le_of_ble_eq_true rfl)⟩ G w k_a0.1 k_a0.2 rfl rfl hl.1 (Nat.le_of_ble_eq_true rfl) (dcs_get dec_X12_must_0 9 rfl) ⟨Nat.le_refl _, Nat.le_refl _⟩) G w (fun H locs w => ?_)
    exact B_X12_must_20  σ4 G hm  hf  w (lv_sub hl [] rfl)
  · rw [if_neg hc] at hf
    refine lv_aload_n G.hx G.hb (dcs_get dec_X12_must_0 4 rfl) rfl (lv_at hl 0 rfl) ?_
    obtain ⟨σ6, h5, hf⟩ := cB_some hf
    refine a_v (k_V (As := []) (rest := []) cls12 lb_X12_goesOn lv_X12_goesOn q_1270 (C_X12_goesOn G.2.2.1 a0 σ h5 ok_a0) ⟨(Nat.le_of_ble_eq_true rfl), (Nat.le_of_ble_eq_true rfl)⟩ G w k_a0.1 k_a0.2 rfl rfl hl.1 (Nat.le_of_ble_eq_true rfl) (dcs_get dec_X12_must_0 5 rfl) ⟨Nat.le_refl _, Nat.le_refl _⟩) G w (fun H locs w => ?_)
    refine lv_goto (tgt := 20) G.hx G.hb (dcs_get dec_X12_must_0 6 rfl) (by decide) ?_
    exact B_X12_must_20  σ6 G hm  hf  w (lv_sub hl [] rfl)
end
set_option maxRecDepth 100000 in
set_option maxHeartbeats 4000000 in
theorem C_X12_must {l : Launch} {D : va_G} {ay : Nat → ClassId} {ad : Nat → Nat} (hi : hInj NM ad) (a0 : Nat) (l1 : Int32) (σ : hSt) {σ0 : hSt} (hf : F_X12_must a0 l1 σ = some σ0) (ok_a0 : okr kM NM 12 a0 = true) : hM l D ay kM NM ad yX12_must cX12_must 2 (none) (rmK 2 41) [.ref (ad a0), .int l1] σ (cV D ay kM NM ad σ0) := by
  refine hM_in (by decide) hi (Nat.le_of_ble_eq_true rfl) ?_
  intro p e s m below meth c G hm w ls hl
  exact B_X12_must_0 a0 l1 σ G hm ok_a0 hf w (lv_sub hl [0, 1] rfl)

/-! HillDrumsModel.roomFor(II)V -/
def DL_X12_roomFor_0 : List (Nat × Instr × Nat) := [(0, .iload_n 1, 1), (1, .iload_n 2, 1), (2, .if_icmp .ne 8, 3), (5, .aload_n 0, 1), (6, .iconst 2, 1), (7, .invokevirtual 221, 3), (10, .aload_n 0, 1), (11, .getfield 206, 3), (14, .ifCond .ne 7, 3), (17, .aload_n 0, 1), (18, .invokevirtual 227, 3), (21, .return_, 1)]
set_option maxRecDepth 100000 in
theorem dec_X12_roomFor_0 : dcs cX12_roomFor DL_X12_roomFor_0 = true := by decide +kernel
theorem lb_X12_roomFor : lkB yX12_roomFor cX12_roomFor 3 (none) 2 := ⟨q_1265, q_14, ⟨by decide, by decide⟩, by decide +kernel⟩
theorem lv_X12_roomFor : lkV yX12_roomFor := ⟨q_1264, qs_74⟩
def F_X12_roomFor_21  (σ : hSt) : Option (hSt) :=
some (σ)
def F_X12_roomFor_10 (a0 : Nat) (σ : hSt) : Option (hSt) :=
if (σ.1 a0 13) = 0 then (
(F_X12_goesOn a0 σ).bind fun σ2 =>
F_X12_roomFor_21  σ2) else (
F_X12_roomFor_21  σ)
def F_X12_roomFor (a0 : Nat) (l1 : Int32) (l2 : Int32) (σ : hSt) : Option (hSt) :=
if l1 = l2 then (
(F_X12_fail a0 (2 : Int32) σ).bind fun σ4 =>
F_X12_roomFor_10 a0 σ4) else (
F_X12_roomFor_10 a0 σ)
section
variable {p : Program} {l : Launch} {e : Env} {s : State} {m : MethodId} {args : Array Value} {below : List Frame} {meth : Method} {c : Code} {D : va_G} {ay : Nat → ClassId} {ad : Nat → Nat}
set_option maxRecDepth 100000 in
set_option maxHeartbeats 4000000 in
theorem B_X12_roomFor_21 {H : Heap} {locs : List Loc} {ls : Array Slot} {σ0 : hSt}  (σ : hSt) (G : Gx p m c cX12_roomFor 3 s args RX12 D ay NM ad (aN NM ad)) (hm : meth.sig.returnType = none ∧ meth.locks = false)  (hf : F_X12_roomFor_21  σ = some σ0)  (w : Wd D ay kM NM ad (aN NM ad) s σ H locs) (hl : lv_has ls 3 []) : W p l e (rmK 2 41) s m args below meth c H locs 0 0 (MQ below (cV D ay kM NM ad σ0) args s 0 0 (aN NM ad)) (F0 m 21 ls []) := by
  unfold F_X12_roomFor_21 at hf
  have e9 := Option.some.inj hf
  exact r_vret G w hm e9 (dcs_get dec_X12_roomFor_0 11 rfl)
set_option maxRecDepth 100000 in
set_option maxHeartbeats 4000000 in
theorem B_X12_roomFor_10 {H : Heap} {locs : List Loc} {ls : Array Slot} {σ0 : hSt} (a0 : Nat) (σ : hSt) (G : Gx p m c cX12_roomFor 3 s args RX12 D ay NM ad (aN NM ad)) (hm : meth.sig.returnType = none ∧ meth.locks = false) (ok_a0 : okr kM NM 12 a0 = true) (hf : F_X12_roomFor_10 a0 σ = some σ0)  (w : Wd D ay kM NM ad (aN NM ad) s σ H locs) (hl : lv_has ls 3 [(0, .ref (ad a0))]) : W p l e (rmK 2 41) s m args below meth c H locs 0 0 (MQ below (cV D ay kM NM ad σ0) args s 0 0 (aN NM ad)) (F0 m 10 ls []) := by
  have k_a0 := okr_in ok_a0
  unfold F_X12_roomFor_10 at hf
  refine lv_aload_n G.hx G.hb (dcs_get dec_X12_roomFor_0 6 rfl) rfl (lv_at hl 0 rfl) ?_
  refine r_geti (k := 13) cls12 fi_12_13.1 fi_12_13.2 q_1021 G w k_a0.1 k_a0.2 (dcs_get dec_X12_roomFor_0 7 rfl) ?_
  refine lv_if_ne (tgt := 21) G.hx G.hb (dcs_get dec_X12_roomFor_0 8 rfl) (by decide) (fun hc => ?_) (fun hc => ?_)
  · rw [if_neg hc] at hf
    exact B_X12_roomFor_21  σ G hm  hf  w (lv_sub hl [] rfl)
  · rw [if_pos hc] at hf
    refine lv_aload_n G.hx G.hb (dcs_get dec_X12_roomFor_0 9 rfl) rfl (lv_at hl 0 rfl) ?_
    obtain ⟨σ2, h1, hf⟩ := cB_some hf
    refine a_v (k_V (As := []) (rest := []) cls12 lb_X12_goesOn lv_X12_goesOn q_1270 (C_X12_goesOn G.2.2.1 a0 σ h1 ok_a0) ⟨(Nat.le_of_ble_eq_true rfl), (Nat.le_of_ble_eq_true rfl)⟩ G w k_a0.1 k_a0.2 rfl rfl hl.1 (Nat.le_of_ble_eq_true rfl) (dcs_get dec_X12_roomFor_0 10 rfl) ⟨Nat.le_refl _, Nat.le_refl _⟩) G w (fun H locs w => ?_)
    exact B_X12_roomFor_21  σ2 G hm  hf  w (lv_sub hl [] rfl)
set_option maxRecDepth 100000 in
set_option maxHeartbeats 4000000 in
theorem B_X12_roomFor_0 {H : Heap} {locs : List Loc} {ls : Array Slot} {σ0 : hSt} (a0 : Nat) (l1 : Int32) (l2 : Int32) (σ : hSt) (G : Gx p m c cX12_roomFor 3 s args RX12 D ay NM ad (aN NM ad)) (hm : meth.sig.returnType = none ∧ meth.locks = false) (ok_a0 : okr kM NM 12 a0 = true) (hf : F_X12_roomFor a0 l1 l2 σ = some σ0)  (w : Wd D ay kM NM ad (aN NM ad) s σ H locs) (hl : lv_has ls 3 [(0, .ref (ad a0)), (1, .int l1), (2, .int l2)]) : W p l e (rmK 2 41) s m args below meth c H locs 0 0 (MQ below (cV D ay kM NM ad σ0) args s 0 0 (aN NM ad)) (F0 m 0 ls []) := by
  have k_a0 := okr_in ok_a0
  unfold F_X12_roomFor at hf
  refine lv_iload_n G.hx G.hb (dcs_get dec_X12_roomFor_0 0 rfl) rfl (lv_at hl 1 rfl) ?_
  refine lv_iload_n G.hx G.hb (dcs_get dec_X12_roomFor_0 1 rfl) rfl (lv_at hl 2 rfl) ?_
  refine lv_icmp_ne (tgt := 10) G.hx G.hb (dcs_get dec_X12_roomFor_0 2 rfl) (by decide) (fun hc => ?_) (fun hc => ?_)
  · rw [if_neg hc] at hf
    exact B_X12_roomFor_10 a0 σ G hm ok_a0 hf  w (lv_sub hl [0] rfl)
  · rw [if_pos hc] at hf
    refine lv_aload_n G.hx G.hb (dcs_get dec_X12_roomFor_0 3 rfl) rfl (lv_at hl 0 rfl) ?_
    refine lv_iconst (v := (2 : Int32)) G.hx G.hb (dcs_get dec_X12_roomFor_0 4 rfl) (by decide) ?_
    obtain ⟨σ4, h3, hf⟩ := cB_some hf
    refine a_v (k_V (As := [.int (2 : Int32)]) (rest := []) cls12 lb_X12_fail lv_X12_fail q_1266 (C_X12_fail G.2.2.1 a0 (2 : Int32) σ h3 ok_a0) ⟨(Nat.le_of_ble_eq_true rfl), (Nat.le_of_ble_eq_true rfl)⟩ G w k_a0.1 k_a0.2 rfl rfl hl.1 (Nat.le_of_ble_eq_true rfl) (dcs_get dec_X12_roomFor_0 5 rfl) ⟨Nat.le_refl _, Nat.le_refl _⟩) G w (fun H locs w => ?_)
    exact B_X12_roomFor_10 a0 σ4 G hm ok_a0 hf  w (lv_sub hl [0] rfl)
end
set_option maxRecDepth 100000 in
set_option maxHeartbeats 4000000 in
theorem C_X12_roomFor {l : Launch} {D : va_G} {ay : Nat → ClassId} {ad : Nat → Nat} (hi : hInj NM ad) (a0 : Nat) (l1 : Int32) (l2 : Int32) (σ : hSt) {σ0 : hSt} (hf : F_X12_roomFor a0 l1 l2 σ = some σ0) (ok_a0 : okr kM NM 12 a0 = true) : hM l D ay kM NM ad yX12_roomFor cX12_roomFor 3 (none) (rmK 2 41) [.ref (ad a0), .int l1, .int l2] σ (cV D ay kM NM ad σ0) := by
  refine hM_in (by decide) hi (Nat.le_of_ble_eq_true rfl) ?_
  intro p e s m below meth c G hm w ls hl
  exact B_X12_roomFor_0 a0 l1 l2 σ G hm ok_a0 hf w (lv_sub hl [0, 1, 2] rfl)

/-! HillDrumsModel.named()I -/
def DL_X12_named_0 : List (Nat × Instr × Nat) := [(0, .aload_n 0, 1), (1, .getfield 209, 3), (4, .istore_n 1, 1), (5, .aload_n 0, 1), (6, .iconst 1, 1), (7, .invokevirtual 270, 3), (10, .iconst 0, 1), (11, .istore_n 2, 1), (12, .iload_n 2, 1), (13, .aload_n 0, 1), (14, .getfield 242, 3), (17, .if_icmp .ge 38, 3), (20, .aload_n 0, 1), (21, .getfield 206, 3), (24, .ifCond .ne 31, 3), (27, .aload_n 0, 1), (28, .getfield 40, 3), (31, .iload_n 2, 1), (32, .laload, 1), (33, .aload_n 0, 1), (34, .getfield 30, 3), (37, .iload_n 1, 1), (38, .laload, 1), (39, .lcmp, 1), (40, .ifCond .ne 9, 3), (43, .aload_n 0, 1), (44, .iconst 3, 1), (45, .iload_n 1, 1), (46, .invokevirtual 282, 3), (49, .iinc 2 1, 3), (52, .goto (-40), 3), (55, .iload_n 1, 1), (56, .ireturn, 1)]
set_option maxRecDepth 100000 in
theorem dec_X12_named_0 : dcs cX12_named DL_X12_named_0 = true := by decide +kernel
theorem lb_X12_named : lkB yX12_named cX12_named 3 ((some .int)) 0 := ⟨q_1281, q_14, ⟨by decide, by decide⟩, by decide +kernel⟩
theorem lv_X12_named : lkV yX12_named := ⟨q_1280, qs_78⟩
def F_X12_named_49 (a0 : Nat) (l1 : Int32) (l2 : Int32) (σ : hSt) : Option ((Int32 × hSt) ⊕ (Int32 × hSt)) :=
cL (l2 + (1 : Int32)) fun v1 =>
some (.inl (v1, σ))
def F_X12_named_55 (l1 : Int32) (σ : hSt) : Option (Int32 × hSt) :=
some ((l1, σ))
def F_X12_named_12b (a0 : Nat) (l1 : Int32) (l2 : Int32) (σ : hSt) : Option ((Int32 × hSt) ⊕ (Int32 × hSt)) :=
if (σ.1 a0 20) ≤ l2 then (
(F_X12_named_55 l1 σ).map (fun x => .inr (x))) else (
if (σ.1 a0 13) = 0 then (
cR (σ.2.2 a0 21) (okr kM NM 103) fun z2 =>
cG (inb l2 (kM z2).2) <|
cR (σ.2.2 a0 8) (okr kM NM 103) fun z4 =>
cG (inb l1 (kM z4).2) <|
if (lg_cmp (σ.2.1 z2 l2.toNatClampNeg) (σ.2.1 z4 l1.toNatClampNeg)) = 0 then (
(F_X12_wrong a0 (3 : Int32) l1 σ).bind fun σ7 =>
F_X12_named_49 a0 l1 l2 σ7) else (
F_X12_named_49 a0 l1 l2 σ)) else (
(F_X12_named_55 l1 σ).map (fun x => .inr (x))))
def S_X12_named_12 (a0 : Nat) (l1 : Int32) (v : Int32 × hSt) : Option ((Int32 × hSt) ⊕ (Int32 × hSt)) := F_X12_named_12b a0 l1 v.1 v.2
def F_X12_named_12 (a0 : Nat) (l1 : Int32) (l2 : Int32) (σ : hSt) : Option (Int32 × hSt) := lp (S_X12_named_12 a0 l1) fuel (l2, σ)
def F_X12_named (a0 : Nat) (σ : hSt) : Option (Int32 × hSt) :=
cL (σ.1 a0 11) fun v8 =>
(F_X12_must a0 (1 : Int32) σ).bind fun σ10 =>
F_X12_named_12 a0 v8 (0 : Int32) σ10
section
variable {p : Program} {l : Launch} {e : Env} {s : State} {m : MethodId} {args : Array Value} {below : List Frame} {meth : Method} {c : Code} {D : va_G} {ay : Nat → ClassId} {ad : Nat → Nat}
set_option maxRecDepth 100000 in
set_option maxHeartbeats 4000000 in
theorem B_X12_named_49 {H : Heap} {locs : List Loc} {ls : Array Slot} {r0 : Int32} {σ0 : hSt} {o : (Int32 × hSt) ⊕ (Int32 × hSt)} (a0 : Nat) (l1 : Int32) (l2 : Int32) (σ : hSt) (G : Gx p m c cX12_named 3 s args RX12 D ay NM ad (aN NM ad)) (hm : meth.sig.returnType = (some .int) ∧ meth.locks = false) (ok_a0 : okr kM NM 12 a0 = true) (hf : F_X12_named_49 a0 l1 l2 σ = some o) (hb0 : ∀ (v : Int32 × hSt), o = .inl v → ∀ (H : Heap) (locs : List Loc) (ls : Array Slot), Wd D ay kM NM ad (aN NM ad) s v.2 H locs → lv_has ls 3 [(0, .ref (ad a0)), (1, .int l1), (2, .int v.1)] → W p l e (rmK 3 62) s m args below meth c H locs 0 0 (MQ below (cI D ay kM NM ad r0 σ0) args s 0 0 (aN NM ad)) (F0 m 12 ls [])) (hr : ∀ x, o = .inr (x) → x = (r0, σ0)) (w : Wd D ay kM NM ad (aN NM ad) s σ H locs) (hl : lv_has ls 3 [(0, .ref (ad a0)), (1, .int l1), (2, .int l2)]) : W p l e (rmK 3 62) s m args below meth c H locs 0 0 (MQ below (cI D ay kM NM ad r0 σ0) args s 0 0 (aN NM ad)) (F0 m 49 ls []) := by
  have k_a0 := okr_in ok_a0
  unfold F_X12_named_49 at hf
  obtain ⟨v1, e_v1, hf⟩ := cL_some hf
  refine lv_iinc (v := v1) (lv' := [(2, .int v1), (0, .ref (ad a0)), (1, .int l1)]) G.hx G.hb (dcs_get dec_X12_named_0 29 rfl) hl (k := 2) rfl (by rw [e_v1]; rfl) (by decide) rfl (fun ls hl => ?_)
  refine lv_goto (tgt := 12) G.hx G.hb (dcs_get dec_X12_named_0 30 rfl) (by decide) ?_
  exact hb0 _ (Option.some.inj hf).symm _ _ _ w (lv_sub hl [1, 2, 0] rfl)
set_option maxRecDepth 100000 in
set_option maxHeartbeats 4000000 in
theorem B_X12_named_55 {H : Heap} {locs : List Loc} {ls : Array Slot} {r0 : Int32} {σ0 : hSt} (l1 : Int32) (σ : hSt) (G : Gx p m c cX12_named 3 s args RX12 D ay NM ad (aN NM ad)) (hm : meth.sig.returnType = (some .int) ∧ meth.locks = false)  (hf : F_X12_named_55 l1 σ = some (r0, σ0))  (w : Wd D ay kM NM ad (aN NM ad) s σ H locs) (hl : lv_has ls 3 [(1, .int l1)]) : W p l e (rmK 3 62) s m args below meth c H locs 0 0 (MQ below (cI D ay kM NM ad r0 σ0) args s 0 0 (aN NM ad)) (F0 m 55 ls []) := by
  unfold F_X12_named_55 at hf
  refine lv_iload_n G.hx G.hb (dcs_get dec_X12_named_0 31 rfl) rfl (lv_at hl 0 rfl) ?_
  have e9 := Option.some.inj hf
  exact r_iret G w hm (congrArg Prod.fst e9) (congrArg Prod.snd e9) (dcs_get dec_X12_named_0 32 rfl)
set_option maxRecDepth 100000 in
set_option maxHeartbeats 4000000 in
theorem B_X12_named_12b {H : Heap} {locs : List Loc} {ls : Array Slot} {r0 : Int32} {σ0 : hSt} {o : (Int32 × hSt) ⊕ (Int32 × hSt)} (a0 : Nat) (l1 : Int32) (l2 : Int32) (σ : hSt) (G : Gx p m c cX12_named 3 s args RX12 D ay NM ad (aN NM ad)) (hm : meth.sig.returnType = (some .int) ∧ meth.locks = false) (ok_a0 : okr kM NM 12 a0 = true) (hf : F_X12_named_12b a0 l1 l2 σ = some o) (hb0 : ∀ (v : Int32 × hSt), o = .inl v → ∀ (H : Heap) (locs : List Loc) (ls : Array Slot), Wd D ay kM NM ad (aN NM ad) s v.2 H locs → lv_has ls 3 [(0, .ref (ad a0)), (1, .int l1), (2, .int v.1)] → W p l e (rmK 3 62) s m args below meth c H locs 0 0 (MQ below (cI D ay kM NM ad r0 σ0) args s 0 0 (aN NM ad)) (F0 m 12 ls [])) (hr : ∀ x, o = .inr (x) → x = (r0, σ0)) (w : Wd D ay kM NM ad (aN NM ad) s σ H locs) (hl : lv_has ls 3 [(0, .ref (ad a0)), (1, .int l1), (2, .int l2)]) : W p l e (rmK 3 62) s m args below meth c H locs 0 0 (MQ below (cI D ay kM NM ad r0 σ0) args s 0 0 (aN NM ad)) (F0 m 12 ls []) := by
  have k_a0 := okr_in ok_a0
  unfold F_X12_named_12b at hf
  refine lv_iload_n G.hx G.hb (dcs_get dec_X12_named_0 8 rfl) rfl (lv_at hl 2 rfl) ?_
  refine lv_aload_n G.hx G.hb (dcs_get dec_X12_named_0 9 rfl) rfl (lv_at hl 0 rfl) ?_
  refine r_geti (k := 20) cls12 fi_12_20.1 fi_12_20.2 q_1028 G w k_a0.1 k_a0.2 (dcs_get dec_X12_named_0 10 rfl) ?_
  refine lv_icmp_ge (tgt := 55) G.hx G.hb (dcs_get dec_X12_named_0 11 rfl) (by decide) (fun hc => ?_) (fun hc => ?_)
  · rw [if_pos hc] at hf
    obtain ⟨x9, h9, e9⟩ := map_some_inv hf
    subst e9
    have e8 := hr _ rfl
    rw [e8] at h9
    exact B_X12_named_55 l1 σ G hm  h9 w (lv_sub hl [1] rfl)
  · rw [if_neg hc] at hf
    refine lv_aload_n G.hx G.hb (dcs_get dec_X12_named_0 12 rfl) rfl (lv_at hl 0 rfl) ?_
    refine r_geti (k := 13) cls12 fi_12_13.1 fi_12_13.2 q_1021 G w k_a0.1 k_a0.2 (dcs_get dec_X12_named_0 13 rfl) ?_
    refine lv_if_ne (tgt := 55) G.hx G.hb (dcs_get dec_X12_named_0 14 rfl) (by decide) (fun hc => ?_) (fun hc => ?_)
    · rw [if_neg hc] at hf
      obtain ⟨x9, h9, e9⟩ := map_some_inv hf
      subst e9
      have e8 := hr _ rfl
      rw [e8] at h9
      exact B_X12_named_55 l1 σ G hm  h9 w (lv_sub hl [1] rfl)
    · rw [if_pos hc] at hf
      refine lv_aload_n G.hx G.hb (dcs_get dec_X12_named_0 15 rfl) rfl (lv_at hl 0 rfl) ?_
      obtain ⟨z2, e_z2, ok_z2, hf⟩ := cR_some hf
      have k_z2 := okr_in ok_z2
      refine r_getr (k := 21) cls12 fi_12_21.1 fi_12_21.2 q_1029 G w k_a0.1 k_a0.2 e_z2 (dcs_get dec_X12_named_0 16 rfl) ?_
      refine lv_iload_n G.hx G.hb (dcs_get dec_X12_named_0 17 rfl) rfl (lv_at hl 2 rfl) ?_
      obtain ⟨h3, hf⟩ := cG_some hf
      refine r_lald G w k_z2.1 k_z2.2 h3 (dcs_get dec_X12_named_0 18 rfl) ?_
      refine lv_aload_n G.hx G.hb (dcs_get dec_X12_named_0 19 rfl) rfl (lv_at hl 0 rfl) ?_
      obtain ⟨z4, e_z4, ok_z4, hf⟩ := cR_some hf
      have k_z4 := okr_in ok_z4
      refine r_getr (k := 8) cls12 fi_12_8.1 fi_12_8.2 q_1016 G w k_a0.1 k_a0.2 e_z4 (dcs_get dec_X12_named_0 20 rfl) ?_
      refine lv_iload_n G.hx G.hb (dcs_get dec_X12_named_0 21 rfl) rfl (lv_at hl 1 rfl) ?_
      obtain ⟨h5, hf⟩ := cG_some hf
      refine r_lald G w k_z4.1 k_z4.2 h5 (dcs_get dec_X12_named_0 22 rfl) ?_
      refine W.lcmp G.hx G.hb (dcs_get dec_X12_named_0 23 rfl) ?_
      refine lv_if_ne (tgt := 49) G.hx G.hb (dcs_get dec_X12_named_0 24 rfl) (by decide) (fun hc => ?_) (fun hc => ?_)
      · rw [if_neg hc] at hf
        exact B_X12_named_49 a0 l1 l2 σ G hm ok_a0 hf hb0 hr w (lv_sub hl [0, 1, 2] rfl)
      · rw [if_pos hc] at hf
        refine lv_aload_n G.hx G.hb (dcs_get dec_X12_named_0 25 rfl) rfl (lv_at hl 0 rfl) ?_
        refine lv_iconst (v := (3 : Int32)) G.hx G.hb (dcs_get dec_X12_named_0 26 rfl) (by decide) ?_
        refine lv_iload_n G.hx G.hb (dcs_get dec_X12_named_0 27 rfl) rfl (lv_at hl 1 rfl) ?_
        obtain ⟨σ7, h6, hf⟩ := cB_some hf
        refine a_v (k_V (As := [.int (3 : Int32), .int l1]) (rest := []) cls12 lb_X12_wrong lv_X12_wrong q_1286 (C_X12_wrong G.2.2.1 a0 (3 : Int32) l1 σ h6 ok_a0) ⟨(Nat.le_of_ble_eq_true rfl), (Nat.le_of_ble_eq_true rfl)⟩ G w k_a0.1 k_a0.2 rfl rfl hl.1 (Nat.le_of_ble_eq_true rfl) (dcs_get dec_X12_named_0 28 rfl) ⟨Nat.le_refl _, Nat.le_refl _⟩) G w (fun H locs w => ?_)
        exact B_X12_named_49 a0 l1 l2 σ7 G hm ok_a0 hf hb0 hr w (lv_sub hl [0, 1, 2] rfl)
set_option maxRecDepth 100000 in
set_option maxHeartbeats 4000000 in
theorem H_X12_named_12 {r0 : Int32} {σ0 : hSt} (a0 : Nat) (l1 : Int32) (G : Gx p m c cX12_named 3 s args RX12 D ay NM ad (aN NM ad)) (hm : meth.sig.returnType = (some .int) ∧ meth.locks = false) (ok_a0 : okr kM NM 12 a0 = true)  : ∀ (k : Nat) (v : Int32 × hSt), lp (S_X12_named_12 a0 l1) k v = some (r0, σ0) → ∀ (H : Heap) (locs : List Loc) (ls : Array Slot), Wd D ay kM NM ad (aN NM ad) s v.2 H locs → lv_has ls 3 [(0, .ref (ad a0)), (1, .int l1), (2, .int v.1)] → W p l e (rmK 3 62) s m args below meth c H locs 0 0 (MQ below (cI D ay kM NM ad r0 σ0) args s 0 0 (aN NM ad)) (F0 m 12 ls []) := by
  intro k
  induction k with
  | zero => intro v hf; cases hf
  | succ k ih =>
    intro v hf H locs ls w hl
    obtain ⟨o1, h1, h2, h3⟩ := lp_some hf
    exact B_X12_named_12b a0 l1 v.1 v.2 G hm ok_a0 h1  (fun v' e => ih v' (h2 v' e)) (fun x e => h3 x e) w hl
set_option maxRecDepth 100000 in
set_option maxHeartbeats 4000000 in
theorem B_X12_named_12 {H : Heap} {locs : List Loc} {ls : Array Slot} {r0 : Int32} {σ0 : hSt} (a0 : Nat) (l1 : Int32) (l2 : Int32) (σ : hSt) (G : Gx p m c cX12_named 3 s args RX12 D ay NM ad (aN NM ad)) (hm : meth.sig.returnType = (some .int) ∧ meth.locks = false) (ok_a0 : okr kM NM 12 a0 = true) (hf : F_X12_named_12 a0 l1 l2 σ = some (r0, σ0))  (w : Wd D ay kM NM ad (aN NM ad) s σ H locs) (hl : lv_has ls 3 [(0, .ref (ad a0)), (1, .int l1), (2, .int l2)]) : W p l e (rmK 3 62) s m args below meth c H locs 0 0 (MQ below (cI D ay kM NM ad r0 σ0) args s 0 0 (aN NM ad)) (F0 m 12 ls []) := by
  unfold F_X12_named_12 at hf
  exact H_X12_named_12 a0 l1  G hm ok_a0  fuel (l2, σ) hf _ _ _ w hl
set_option maxRecDepth 100000 in
set_option maxHeartbeats 4000000 in
theorem B_X12_named_0 {H : Heap} {locs : List Loc} {ls : Array Slot} {r0 : Int32} {σ0 : hSt} (a0 : Nat) (σ : hSt) (G : Gx p m c cX12_named 3 s args RX12 D ay NM ad (aN NM ad)) (hm : meth.sig.returnType = (some .int) ∧ meth.locks = false) (ok_a0 : okr kM NM 12 a0 = true) (hf : F_X12_named a0 σ = some (r0, σ0))  (w : Wd D ay kM NM ad (aN NM ad) s σ H locs) (hl : lv_has ls 3 [(0, .ref (ad a0))]) : W p l e (rmK 3 62) s m args below meth c H locs 0 0 (MQ below (cI D ay kM NM ad r0 σ0) args s 0 0 (aN NM ad)) (F0 m 0 ls []) := by
  have k_a0 := okr_in ok_a0
  unfold F_X12_named at hf
  refine lv_aload_n G.hx G.hb (dcs_get dec_X12_named_0 0 rfl) rfl (lv_at hl 0 rfl) ?_
  refine r_geti (k := 11) cls12 fi_12_11.1 fi_12_11.2 q_1019 G w k_a0.1 k_a0.2 (dcs_get dec_X12_named_0 1 rfl) ?_
  obtain ⟨v8, e_v8, hf⟩ := cL_some hf
  refine r_topi e_v8 ?_
  refine lv_istore_n (lv' := [(1, .int v8), (0, .ref (ad a0))]) G.hx G.hb (dcs_get dec_X12_named_0 2 rfl) rfl hl (by decide) rfl (fun ls hl => ?_)
  refine lv_aload_n G.hx G.hb (dcs_get dec_X12_named_0 3 rfl) rfl (lv_at hl 1 rfl) ?_
  refine lv_iconst (v := (1 : Int32)) G.hx G.hb (dcs_get dec_X12_named_0 4 rfl) (by decide) ?_
  obtain ⟨σ10, h9, hf⟩ := cB_some hf
  refine a_v (k_V (As := [.int (1 : Int32)]) (rest := []) cls12 lb_X12_must lv_X12_must q_1282 (C_X12_must G.2.2.1 a0 (1 : Int32) σ h9 ok_a0) ⟨(Nat.le_of_ble_eq_true rfl), (Nat.le_of_ble_eq_true rfl)⟩ G w k_a0.1 k_a0.2 rfl rfl hl.1 (Nat.le_of_ble_eq_true rfl) (dcs_get dec_X12_named_0 5 rfl) ⟨Nat.le_refl _, Nat.le_refl _⟩) G w (fun H locs w => ?_)
  refine lv_iconst (v := (0 : Int32)) G.hx G.hb (dcs_get dec_X12_named_0 6 rfl) (by decide) ?_
  refine lv_istore_n (lv' := [(2, .int (0 : Int32)), (1, .int v8), (0, .ref (ad a0))]) G.hx G.hb (dcs_get dec_X12_named_0 7 rfl) rfl hl (by decide) rfl (fun ls hl => ?_)
  exact B_X12_named_12 a0 v8 (0 : Int32) σ10 G hm ok_a0 hf  w (lv_sub hl [2, 1, 0] rfl)
end
set_option maxRecDepth 100000 in
set_option maxHeartbeats 4000000 in
theorem C_X12_named {l : Launch} {D : va_G} {ay : Nat → ClassId} {ad : Nat → Nat} (hi : hInj NM ad) (a0 : Nat) (σ : hSt) {r0 : Int32} {σ0 : hSt} (hf : F_X12_named a0 σ = some (r0, σ0)) (ok_a0 : okr kM NM 12 a0 = true) : hM l D ay kM NM ad yX12_named cX12_named 3 ((some .int)) (rmK 3 62) [.ref (ad a0)] σ (cI D ay kM NM ad r0 σ0) := by
  refine hM_in (by decide) hi (Nat.le_of_ble_eq_true rfl) ?_
  intro p e s m below meth c G hm w ls hl
  exact B_X12_named_0 a0 σ G hm ok_a0 hf w (lv_sub hl [0] rfl)

/-! HillDrumsModel.bounded(II)I -/
def DL_X12_bounded_0 : List (Nat × Instr × Nat) := [(0, .aload_n 0, 1), (1, .getfield 206, 3), (4, .ifCond .gt 11, 3), (7, .aload_n 0, 1), (8, .iconst 2, 1), (9, .invokevirtual 224, 3), (12, .ifCond .ne 10, 3), (15, .aload_n 0, 1), (16, .iconst 1, 1), (17, .invokevirtual 221, 3), (20, .iload_n 1, 1), (21, .ireturn, 1), (22, .aload_n 0, 1), (23, .getfield 27, 3), (26, .aload_n 0, 1), (27, .getfield 209, 3), (30, .iaload, 1), (31, .istore_n 3, 1), (32, .iload_n 3, 1), (33, .iload_n 1, 1), (34, .if_icmp .lt 8, 3), (37, .iload_n 3, 1), (38, .iload_n 2, 1), (39, .if_icmp .le 12, 3), (42, .aload_n 0, 1), (43, .iconst 5, 1), (44, .aload_n 0, 1), (45, .getfield 209, 3), (48, .invokevirtual 282, 3), (51, .aload_n 0, 1), (52, .invokevirtual 227, 3), (55, .iload_n 3, 1), (56, .ireturn, 1)]
set_option maxRecDepth 100000 in
theorem dec_X12_bounded_0 : dcs cX12_bounded DL_X12_bounded_0 = true := by decide +kernel
theorem lb_X12_bounded : lkB yX12_bounded cX12_bounded 4 ((some .int)) 2 := ⟨q_1293, q_14, ⟨by decide, by decide⟩, by decide +kernel⟩
theorem lv_X12_bounded : lkV yX12_bounded := ⟨q_1292, qs_81⟩
def F_X12_bounded_15 (a0 : Nat) (l1 : Int32) (σ : hSt) : Option (Int32 × hSt) :=
(F_X12_fail a0 (1 : Int32) σ).bind fun σ2 =>
some ((l1, σ2))
def F_X12_bounded_51 (a0 : Nat) (l3 : Int32) (σ : hSt) : Option (Int32 × hSt) :=
(F_X12_goesOn a0 σ).bind fun σ4 =>
some ((l3, σ4))
def F_X12_bounded_42 (a0 : Nat) (l3 : Int32) (σ : hSt) : Option (Int32 × hSt) :=
(F_X12_wrong a0 (5 : Int32) (σ.1 a0 11) σ).bind fun σ6 =>
F_X12_bounded_51 a0 l3 σ6
def F_X12_bounded (a0 : Nat) (l1 : Int32) (l2 : Int32) (σ : hSt) : Option (Int32 × hSt) :=
if 0 < (σ.1 a0 13) then (
F_X12_bounded_15 a0 l1 σ) else (
(F_X12_is a0 (2 : Int32) σ).bind fun v8 =>
if v8 = 0 then (
F_X12_bounded_15 a0 l1 σ) else (
cR (σ.2.2 a0 7) (okr kM NM 101) fun z9 =>
cG (inb (σ.1 a0 11) (kM z9).2) <|
cL (σ.1 z9 (σ.1 a0 11).toNatClampNeg) fun v11 =>
if v11 < l1 then (
F_X12_bounded_42 a0 v11 σ) else (
if v11 ≤ l2 then (
F_X12_bounded_51 a0 v11 σ) else (
F_X12_bounded_42 a0 v11 σ))))
section
variable {p : Program} {l : Launch} {e : Env} {s : State} {m : MethodId} {args : Array Value} {below : List Frame} {meth : Method} {c : Code} {D : va_G} {ay : Nat → ClassId} {ad : Nat → Nat}
set_option maxRecDepth 100000 in
set_option maxHeartbeats 4000000 in
theorem B_X12_bounded_15 {H : Heap} {locs : List Loc} {ls : Array Slot} {r0 : Int32} {σ0 : hSt} (a0 : Nat) (l1 : Int32) (σ : hSt) (G : Gx p m c cX12_bounded 4 s args RX12 D ay NM ad (aN NM ad)) (hm : meth.sig.returnType = (some .int) ∧ meth.locks = false) (ok_a0 : okr kM NM 12 a0 = true) (hf : F_X12_bounded_15 a0 l1 σ = some (r0, σ0))  (w : Wd D ay kM NM ad (aN NM ad) s σ H locs) (hl : lv_has ls 4 [(0, .ref (ad a0)), (1, .int l1)]) : W p l e (rmK 2 41) s m args below meth c H locs 0 0 (MQ below (cI D ay kM NM ad r0 σ0) args s 0 0 (aN NM ad)) (F0 m 15 ls []) := by
  have k_a0 := okr_in ok_a0
  unfold F_X12_bounded_15 at hf
  refine lv_aload_n G.hx G.hb (dcs_get dec_X12_bounded_0 7 rfl) rfl (lv_at hl 0 rfl) ?_
  refine lv_iconst (v := (1 : Int32)) G.hx G.hb (dcs_get dec_X12_bounded_0 8 rfl) (by decide) ?_
  obtain ⟨σ2, h1, hf⟩ := cB_some hf
  refine a_v (k_V (As := [.int (1 : Int32)]) (rest := []) cls12 lb_X12_fail lv_X12_fail q_1266 (C_X12_fail G.2.2.1 a0 (1 : Int32) σ h1 ok_a0) ⟨(Nat.le_of_ble_eq_true rfl), (Nat.le_of_ble_eq_true rfl)⟩ G w k_a0.1 k_a0.2 rfl rfl hl.1 (Nat.le_of_ble_eq_true rfl) (dcs_get dec_X12_bounded_0 9 rfl) ⟨Nat.le_refl _, Nat.le_refl _⟩) G w (fun H locs w => ?_)
  refine lv_iload_n G.hx G.hb (dcs_get dec_X12_bounded_0 10 rfl) rfl (lv_at hl 1 rfl) ?_
  have e9 := Option.some.inj hf
  exact r_iret G w hm (congrArg Prod.fst e9) (congrArg Prod.snd e9) (dcs_get dec_X12_bounded_0 11 rfl)
set_option maxRecDepth 100000 in
set_option maxHeartbeats 4000000 in
theorem B_X12_bounded_51 {H : Heap} {locs : List Loc} {ls : Array Slot} {r0 : Int32} {σ0 : hSt} (a0 : Nat) (l3 : Int32) (σ : hSt) (G : Gx p m c cX12_bounded 4 s args RX12 D ay NM ad (aN NM ad)) (hm : meth.sig.returnType = (some .int) ∧ meth.locks = false) (ok_a0 : okr kM NM 12 a0 = true) (hf : F_X12_bounded_51 a0 l3 σ = some (r0, σ0))  (w : Wd D ay kM NM ad (aN NM ad) s σ H locs) (hl : lv_has ls 4 [(0, .ref (ad a0)), (3, .int l3)]) : W p l e (rmK 2 41) s m args below meth c H locs 0 0 (MQ below (cI D ay kM NM ad r0 σ0) args s 0 0 (aN NM ad)) (F0 m 51 ls []) := by
  have k_a0 := okr_in ok_a0
  unfold F_X12_bounded_51 at hf
  refine lv_aload_n G.hx G.hb (dcs_get dec_X12_bounded_0 29 rfl) rfl (lv_at hl 0 rfl) ?_
  obtain ⟨σ4, h3, hf⟩ := cB_some hf
  refine a_v (k_V (As := []) (rest := []) cls12 lb_X12_goesOn lv_X12_goesOn q_1270 (C_X12_goesOn G.2.2.1 a0 σ h3 ok_a0) ⟨(Nat.le_of_ble_eq_true rfl), (Nat.le_of_ble_eq_true rfl)⟩ G w k_a0.1 k_a0.2 rfl rfl hl.1 (Nat.le_of_ble_eq_true rfl) (dcs_get dec_X12_bounded_0 30 rfl) ⟨Nat.le_refl _, Nat.le_refl _⟩) G w (fun H locs w => ?_)
  refine lv_iload_n G.hx G.hb (dcs_get dec_X12_bounded_0 31 rfl) rfl (lv_at hl 1 rfl) ?_
  have e9 := Option.some.inj hf
  exact r_iret G w hm (congrArg Prod.fst e9) (congrArg Prod.snd e9) (dcs_get dec_X12_bounded_0 32 rfl)
set_option maxRecDepth 100000 in
set_option maxHeartbeats 4000000 in
theorem B_X12_bounded_42 {H : Heap} {locs : List Loc} {ls : Array Slot} {r0 : Int32} {σ0 : hSt} (a0 : Nat) (l3 : Int32) (σ : hSt) (G : Gx p m c cX12_bounded 4 s args RX12 D ay NM ad (aN NM ad)) (hm : meth.sig.returnType = (some .int) ∧ meth.locks = false) (ok_a0 : okr kM NM 12 a0 = true) (hf : F_X12_bounded_42 a0 l3 σ = some (r0, σ0))  (w : Wd D ay kM NM ad (aN NM ad) s σ H locs) (hl : lv_has ls 4 [(0, .ref (ad a0)), (3, .int l3)]) : W p l e (rmK 2 41) s m args below meth c H locs 0 0 (MQ below (cI D ay kM NM ad r0 σ0) args s 0 0 (aN NM ad)) (F0 m 42 ls []) := by
  have k_a0 := okr_in ok_a0
  unfold F_X12_bounded_42 at hf
  refine lv_aload_n G.hx G.hb (dcs_get dec_X12_bounded_0 24 rfl) rfl (lv_at hl 0 rfl) ?_
  refine lv_iconst (v := (5 : Int32)) G.hx G.hb (dcs_get dec_X12_bounded_0 25 rfl) (by decide) ?_
  refine lv_aload_n G.hx G.hb (dcs_get dec_X12_bounded_0 26 rfl) rfl (lv_at hl 0 rfl) ?_
  refine r_geti (k := 11) cls12 fi_12_11.1 fi_12_11.2 q_1019 G w k_a0.1 k_a0.2 (dcs_get dec_X12_bounded_0 27 rfl) ?_
  obtain ⟨σ6, h5, hf⟩ := cB_some hf
  refine a_v (k_V (As := [.int (5 : Int32), .int (σ.1 a0 11)]) (rest := []) cls12 lb_X12_wrong lv_X12_wrong q_1286 (C_X12_wrong G.2.2.1 a0 (5 : Int32) (σ.1 a0 11) σ h5 ok_a0) ⟨(Nat.le_of_ble_eq_true rfl), (Nat.le_of_ble_eq_true rfl)⟩ G w k_a0.1 k_a0.2 rfl rfl hl.1 (Nat.le_of_ble_eq_true rfl) (dcs_get dec_X12_bounded_0 28 rfl) ⟨Nat.le_refl _, Nat.le_refl _⟩) G w (fun H locs w => ?_)
  exact B_X12_bounded_51 a0 l3 σ6 G hm ok_a0 hf  w (lv_sub hl [0, 1] rfl)
set_option maxRecDepth 100000 in
set_option maxHeartbeats 4000000 in
theorem B_X12_bounded_0 {H : Heap} {locs : List Loc} {ls : Array Slot} {r0 : Int32} {σ0 : hSt} (a0 : Nat) (l1 : Int32) (l2 : Int32) (σ : hSt) (G : Gx p m c cX12_bounded 4 s args RX12 D ay NM ad (aN NM ad)) (hm : meth.sig.returnType = (some .int) ∧ meth.locks = false) (ok_a0 : okr kM NM 12 a0 = true) (hf : F_X12_bounded a0 l1 l2 σ = some (r0, σ0))  (w : Wd D ay kM NM ad (aN NM ad) s σ H locs) (hl : lv_has ls 4 [(0, .ref (ad a0)), (1, .int l1), (2, .int l2)]) : W p l e (rmK 2 41) s m args below meth c H locs 0 0 (MQ below (cI D ay kM NM ad r0 σ0) args s 0 0 (aN NM ad)) (F0 m 0 ls []) := by
  have k_a0 := okr_in ok_a0
  unfold F_X12_bounded at hf
  refine lv_aload_n G.hx G.hb (dcs_get dec_X12_bounded_0 0 rfl) rfl (lv_at hl 0 rfl) ?_
  refine r_geti (k := 13) cls12 fi_12_13.1 fi_12_13.2 q_1021 G w k_a0.1 k_a0.2 (dcs_get dec_X12_bounded_0 1 rfl) ?_
  refine lv_if_gt (tgt := 15) G.hx G.hb (dcs_get dec_X12_bounded_0 2 rfl) (by decide) (fun hc => ?_) (fun hc => ?_)
  · rw [if_pos hc] at hf
    exact B_X12_bounded_15 a0 l1 σ G hm ok_a0 hf  w (lv_sub hl [0, 1] rfl)
  · rw [if_neg hc] at hf
    refine lv_aload_n G.hx G.hb (dcs_get dec_X12_bounded_0 3 rfl) rfl (lv_at hl 0 rfl) ?_
    refine lv_iconst (v := (2 : Int32)) G.hx G.hb (dcs_get dec_X12_bounded_0 4 rfl) (by decide) ?_
    obtain ⟨v8, h7, hf⟩ := cB_some hf
    refine a_i (k_V (As := [.int (2 : Int32)]) (rest := []) cls12 lb_X12_is lv_X12_is q_1254 (C_X12_is G.2.2.1 a0 (2 : Int32) σ h7 ok_a0) ⟨(Nat.le_of_ble_eq_true rfl), (Nat.le_of_ble_eq_true rfl)⟩ G w k_a0.1 k_a0.2 rfl rfl hl.1 (Nat.le_of_ble_eq_true rfl) (dcs_get dec_X12_bounded_0 5 rfl) ⟨Nat.le_refl _, Nat.le_refl _⟩) G w (fun H locs w => ?_)
    refine lv_if_ne (tgt := 22) G.hx G.hb (dcs_get dec_X12_bounded_0 6 rfl) (by decide) (fun hc => ?_) (fun hc => ?_)
    · rw [if_neg hc] at hf
      refine lv_aload_n G.hx G.hb (dcs_get dec_X12_bounded_0 12 rfl) rfl (lv_at hl 0 rfl) ?_
      obtain ⟨z9, e_z9, ok_z9, hf⟩ := cR_some hf
      have k_z9 := okr_in ok_z9
      refine r_getr (k := 7) cls12 fi_12_7.1 fi_12_7.2 q_1015 G w k_a0.1 k_a0.2 e_z9 (dcs_get dec_X12_bounded_0 13 rfl) ?_
      refine lv_aload_n G.hx G.hb (dcs_get dec_X12_bounded_0 14 rfl) rfl (lv_at hl 0 rfl) ?_
      refine r_geti (k := 11) cls12 fi_12_11.1 fi_12_11.2 q_1019 G w k_a0.1 k_a0.2 (dcs_get dec_X12_bounded_0 15 rfl) ?_
      obtain ⟨h10, hf⟩ := cG_some hf
      refine r_iald G w k_z9.1 k_z9.2 h10 (dcs_get dec_X12_bounded_0 16 rfl) ?_
      obtain ⟨v11, e_v11, hf⟩ := cL_some hf
      refine r_topi e_v11 ?_
      refine lv_istore_n (lv' := [(3, .int v11), (0, .ref (ad a0)), (1, .int l1), (2, .int l2)]) G.hx G.hb (dcs_get dec_X12_bounded_0 17 rfl) rfl hl (by decide) rfl (fun ls hl => ?_)
      refine lv_iload_n G.hx G.hb (dcs_get dec_X12_bounded_0 18 rfl) rfl (lv_at hl 0 rfl) ?_
      refine lv_iload_n G.hx G.hb (dcs_get dec_X12_bounded_0 19 rfl) rfl (lv_at hl 2 rfl) ?_
      refine lv_icmp_lt (tgt := 42) G.hx G.hb (dcs_get dec_X12_bounded_0 20 rfl) (by decide) (fun hc => ?_) (fun hc => ?_)
      · rw [if_pos hc] at hf
        exact B_X12_bounded_42 a0 v11 σ G hm ok_a0 hf  w (lv_sub hl [1, 0] rfl)
      · rw [if_neg hc] at hf
        refine lv_iload_n G.hx G.hb (dcs_get dec_X12_bounded_0 21 rfl) rfl (lv_at hl 0 rfl) ?_
        refine lv_iload_n G.hx G.hb (dcs_get dec_X12_bounded_0 22 rfl) rfl (lv_at hl 3 rfl) ?_
        refine lv_icmp_le (tgt := 51) G.hx G.hb (dcs_get dec_X12_bounded_0 23 rfl) (by decide) (fun hc => ?_) (fun hc => ?_)
        · rw [if_pos hc] at hf
          exact B_X12_bounded_51 a0 v11 σ G hm ok_a0 hf  w (lv_sub hl [1, 0] rfl)
        · rw [if_neg hc] at hf
          exact B_X12_bounded_42 a0 v11 σ G hm ok_a0 hf  w (lv_sub hl [1, 0] rfl)
    · rw [if_pos hc] at hf
      exact B_X12_bounded_15 a0 l1 σ G hm ok_a0 hf  w (lv_sub hl [0, 1] rfl)
end
set_option maxRecDepth 100000 in
set_option maxHeartbeats 4000000 in
theorem C_X12_bounded {l : Launch} {D : va_G} {ay : Nat → ClassId} {ad : Nat → Nat} (hi : hInj NM ad) (a0 : Nat) (l1 : Int32) (l2 : Int32) (σ : hSt) {r0 : Int32} {σ0 : hSt} (hf : F_X12_bounded a0 l1 l2 σ = some (r0, σ0)) (ok_a0 : okr kM NM 12 a0 = true) : hM l D ay kM NM ad yX12_bounded cX12_bounded 4 ((some .int)) (rmK 2 41) [.ref (ad a0), .int l1, .int l2] σ (cI D ay kM NM ad r0 σ0) := by
  refine hM_in (by decide) hi (Nat.le_of_ble_eq_true rfl) ?_
  intro p e s m below meth c G hm w ls hl
  exact B_X12_bounded_0 a0 l1 l2 σ G hm ok_a0 hf w (lv_sub hl [0, 1, 2] rfl)

/-! HillDrumsModel.notes(III)V -/
def DL_X12_notes_0 : List (Nat × Instr × Nat) := [(0, .aload_n 0, 1), (1, .getfield 40, 3), (4, .aload_n 0, 1), (5, .getfield 242, 3), (8, .aload_n 0, 1), (9, .getfield 30, 3), (12, .iload_n 1, 1), (13, .laload, 1), (14, .lastore, 1), (15, .aload_n 0, 1), (16, .getfield 43, 3), (19, .aload_n 0, 1), (20, .getfield 242, 3), (23, .iload_n 2, 1), (24, .iastore, 1), (25, .aload_n 0, 1), (26, .getfield 46, 3), (29, .aload_n 0, 1), (30, .getfield 242, 3), (33, .iload_n 3, 1), (34, .iastore, 1), (35, .aload_n 0, 1), (36, .dup, 1), (37, .getfield 242, 3), (40, .iconst 1, 1), (41, .iadd, 1), (42, .putfield 242, 3), (45, .return_, 1)]
set_option maxRecDepth 100000 in
theorem dec_X12_notes_0 : dcs cX12_notes DL_X12_notes_0 = true := by decide +kernel
theorem lb_X12_notes : lkB yX12_notes cX12_notes 4 (none) 3 := ⟨q_1297, q_14, ⟨by decide, by decide⟩, by decide +kernel⟩
theorem lv_X12_notes : lkV yX12_notes := ⟨q_1296, qs_82⟩
def F_X12_notes (a0 : Nat) (l1 : Int32) (l2 : Int32) (l3 : Int32) (σ : hSt) : Option (hSt) :=
cR (σ.2.2 a0 21) (okr kM NM 103) fun z1 =>
cR (σ.2.2 a0 8) (okr kM NM 103) fun z2 =>
cG (inb l1 (kM z2).2) <|
cG (inb (σ.1 a0 20) (kM z1).2) <|
cL (uJ σ z1 (σ.1 a0 20).toNatClampNeg (σ.2.1 z2 l1.toNatClampNeg)) fun σ5 =>
cR (σ5.2.2 a0 22) (okr kM NM 101) fun z6 =>
cG (inb (σ5.1 a0 20) (kM z6).2) <|
cL (uI σ5 z6 (σ5.1 a0 20).toNatClampNeg l2) fun σ8 =>
cR (σ8.2.2 a0 23) (okr kM NM 101) fun z9 =>
cG (inb (σ8.1 a0 20) (kM z9).2) <|
cL (uI σ8 z9 (σ8.1 a0 20).toNatClampNeg l3) fun σ11 =>
cL (uI σ11 a0 20 ((σ11.1 a0 20) + (1 : Int32))) fun σ12 =>
some (σ12)
section
variable {p : Program} {l : Launch} {e : Env} {s : State} {m : MethodId} {args : Array Value} {below : List Frame} {meth : Method} {c : Code} {D : va_G} {ay : Nat → ClassId} {ad : Nat → Nat}
set_option maxRecDepth 100000 in
set_option maxHeartbeats 4000000 in
theorem B_X12_notes_0 {H : Heap} {locs : List Loc} {ls : Array Slot} {σ0 : hSt} (a0 : Nat) (l1 : Int32) (l2 : Int32) (l3 : Int32) (σ : hSt) (G : Gx p m c cX12_notes 4 s args RX12 D ay NM ad (aN NM ad)) (hm : meth.sig.returnType = none ∧ meth.locks = false) (ok_a0 : okr kM NM 12 a0 = true) (hf : F_X12_notes a0 l1 l2 l3 σ = some σ0)  (w : Wd D ay kM NM ad (aN NM ad) s σ H locs) (hl : lv_has ls 4 [(0, .ref (ad a0)), (1, .int l1), (2, .int l2), (3, .int l3)]) : W p l e (rmK 0 0) s m args below meth c H locs 0 0 (MQ below (cV D ay kM NM ad σ0) args s 0 0 (aN NM ad)) (F0 m 0 ls []) := by
  have k_a0 := okr_in ok_a0
  unfold F_X12_notes at hf
  refine lv_aload_n G.hx G.hb (dcs_get dec_X12_notes_0 0 rfl) rfl (lv_at hl 0 rfl) ?_
  obtain ⟨z1, e_z1, ok_z1, hf⟩ := cR_some hf
  have k_z1 := okr_in ok_z1
  refine r_getr (k := 21) cls12 fi_12_21.1 fi_12_21.2 q_1029 G w k_a0.1 k_a0.2 e_z1 (dcs_get dec_X12_notes_0 1 rfl) ?_
  refine lv_aload_n G.hx G.hb (dcs_get dec_X12_notes_0 2 rfl) rfl (lv_at hl 0 rfl) ?_
  refine r_geti (k := 20) cls12 fi_12_20.1 fi_12_20.2 q_1028 G w k_a0.1 k_a0.2 (dcs_get dec_X12_notes_0 3 rfl) ?_
  refine lv_aload_n G.hx G.hb (dcs_get dec_X12_notes_0 4 rfl) rfl (lv_at hl 0 rfl) ?_
  obtain ⟨z2, e_z2, ok_z2, hf⟩ := cR_some hf
  have k_z2 := okr_in ok_z2
  refine r_getr (k := 8) cls12 fi_12_8.1 fi_12_8.2 q_1016 G w k_a0.1 k_a0.2 e_z2 (dcs_get dec_X12_notes_0 5 rfl) ?_
  refine lv_iload_n G.hx G.hb (dcs_get dec_X12_notes_0 6 rfl) rfl (lv_at hl 1 rfl) ?_
  obtain ⟨h3, hf⟩ := cG_some hf
  refine r_lald G w k_z2.1 k_z2.2 h3 (dcs_get dec_X12_notes_0 7 rfl) ?_
  obtain ⟨h4, hf⟩ := cG_some hf
  obtain ⟨σ5, e_σ5, hf⟩ := cL_some hf
  refine r_last G w k_z1.1 k_z1.2 h4 (dcs_get dec_X12_notes_0 8 rfl) (fun H locs w => ?_)
  have w := Wd.nm e_σ5 w
  refine lv_aload_n G.hx G.hb (dcs_get dec_X12_notes_0 9 rfl) rfl (lv_at hl 0 rfl) ?_
  obtain ⟨z6, e_z6, ok_z6, hf⟩ := cR_some hf
  have k_z6 := okr_in ok_z6
  refine r_getr (k := 22) cls12 fi_12_22.1 fi_12_22.2 q_1030 G w k_a0.1 k_a0.2 e_z6 (dcs_get dec_X12_notes_0 10 rfl) ?_
  refine lv_aload_n G.hx G.hb (dcs_get dec_X12_notes_0 11 rfl) rfl (lv_at hl 0 rfl) ?_
  refine r_geti (k := 20) cls12 fi_12_20.1 fi_12_20.2 q_1028 G w k_a0.1 k_a0.2 (dcs_get dec_X12_notes_0 12 rfl) ?_
  refine lv_iload_n G.hx G.hb (dcs_get dec_X12_notes_0 13 rfl) rfl (lv_at hl 2 rfl) ?_
  obtain ⟨h7, hf⟩ := cG_some hf
  obtain ⟨σ8, e_σ8, hf⟩ := cL_some hf
  refine r_iast G w k_z6.1 k_z6.2 h7 (dcs_get dec_X12_notes_0 14 rfl) (fun H locs w => ?_)
  have w := Wd.nm e_σ8 w
  refine lv_aload_n G.hx G.hb (dcs_get dec_X12_notes_0 15 rfl) rfl (lv_at hl 0 rfl) ?_
  obtain ⟨z9, e_z9, ok_z9, hf⟩ := cR_some hf
  have k_z9 := okr_in ok_z9
  refine r_getr (k := 23) cls12 fi_12_23.1 fi_12_23.2 q_1031 G w k_a0.1 k_a0.2 e_z9 (dcs_get dec_X12_notes_0 16 rfl) ?_
  refine lv_aload_n G.hx G.hb (dcs_get dec_X12_notes_0 17 rfl) rfl (lv_at hl 0 rfl) ?_
  refine r_geti (k := 20) cls12 fi_12_20.1 fi_12_20.2 q_1028 G w k_a0.1 k_a0.2 (dcs_get dec_X12_notes_0 18 rfl) ?_
  refine lv_iload_n G.hx G.hb (dcs_get dec_X12_notes_0 19 rfl) rfl (lv_at hl 3 rfl) ?_
  obtain ⟨h10, hf⟩ := cG_some hf
  obtain ⟨σ11, e_σ11, hf⟩ := cL_some hf
  refine r_iast G w k_z9.1 k_z9.2 h10 (dcs_get dec_X12_notes_0 20 rfl) (fun H locs w => ?_)
  have w := Wd.nm e_σ11 w
  refine lv_aload_n G.hx G.hb (dcs_get dec_X12_notes_0 21 rfl) rfl (lv_at hl 0 rfl) ?_
  refine lv_dup G.hx G.hb (dcs_get dec_X12_notes_0 22 rfl) rfl ?_
  refine r_geti (k := 20) cls12 fi_12_20.1 fi_12_20.2 q_1028 G w k_a0.1 k_a0.2 (dcs_get dec_X12_notes_0 23 rfl) ?_
  refine lv_iconst (v := (1 : Int32)) G.hx G.hb (dcs_get dec_X12_notes_0 24 rfl) (by decide) ?_
  refine lv_iadd G.hx G.hb (dcs_get dec_X12_notes_0 25 rfl) ?_
  obtain ⟨σ12, e_σ12, hf⟩ := cL_some hf
  refine r_puti (k := 20) cls12 ct12 fi_12_20.1 fi_12_20.2 fp_12_20.1 fp_12_20.2 q_1028 rfl rfl G w k_a0.1 k_a0.2 (dcs_get dec_X12_notes_0 26 rfl) (fun H locs w => ?_)
  have w := Wd.nm e_σ12 w
  have e9 := Option.some.inj hf
  exact r_vret G w hm e9 (dcs_get dec_X12_notes_0 27 rfl)
end
set_option maxRecDepth 100000 in
set_option maxHeartbeats 4000000 in
theorem C_X12_notes {l : Launch} {D : va_G} {ay : Nat → ClassId} {ad : Nat → Nat} (hi : hInj NM ad) (a0 : Nat) (l1 : Int32) (l2 : Int32) (l3 : Int32) (σ : hSt) {σ0 : hSt} (hf : F_X12_notes a0 l1 l2 l3 σ = some σ0) (ok_a0 : okr kM NM 12 a0 = true) : hM l D ay kM NM ad yX12_notes cX12_notes 4 (none) (rmK 0 0) [.ref (ad a0), .int l1, .int l2, .int l3] σ (cV D ay kM NM ad σ0) := by
  refine hM_in (by decide) hi (Nat.le_of_ble_eq_true rfl) ?_
  intro p e s m below meth c G hm w ls hl
  exact B_X12_notes_0 a0 l1 l2 l3 σ G hm ok_a0 hf w (lv_sub hl [0, 1, 2, 3] rfl)

/-! HillDrumsModel.tellHill()V -/
def DL_X12_tellHill_0 : List (Nat × Instr × Nat) := [(0, .bipush 6, 2), (2, .aload_n 0, 1), (3, .getfield 239, 3), (6, .imul, 1), (7, .aload_n 0, 1), (8, .getfield 49, 3), (11, .aload_n 0, 1), (12, .getfield 239, 3), (15, .iaload, 1), (16, .iadd, 1), (17, .istore_n 1, 1), (18, .aload_n 0, 1), (19, .invokevirtual 285, 3), (22, .istore_n 2, 1), (23, .aload_n 0, 1), (24, .getfield 52, 3), (27, .iload_n 1, 1), (28, .aload_n 0, 1), (29, .iconst 0, 1), (30, .bipush 99, 2), (32, .invokevirtual 289, 3), (35, .iastore, 1), (36, .aload_n 0, 1), (37, .getfield 55, 3), (40, .iload_n 1, 1), (41, .aload_n 0, 1), (42, .iconst 0, 1), (43, .bipush 99, 2), (45, .invokevirtual 289, 3), (48, .iastore, 1), (49, .aload_n 0, 1), (50, .iconst 4, 1), (51, .invokevirtual 270, 3), (54, .aload_n 0, 1), (55, .getfield 206, 3), (58, .ifCond .le 4, 3), (61, .return_, 1), (62, .aload_n 0, 1), (63, .iload_n 2, 1), (64, .iconst 0, 1)]
set_option maxRecDepth 100000 in
theorem dec_X12_tellHill_0 : dcs cX12_tellHill DL_X12_tellHill_0 = true := by decide +kernel
def DL_X12_tellHill_1 : List (Nat × Instr × Nat) := [(65, .aload_n 0, 1), (66, .getfield 49, 3), (69, .aload_n 0, 1), (70, .getfield 239, 3), (73, .iaload, 1), (74, .invokevirtual 293, 3), (77, .aload_n 0, 1), (78, .getfield 49, 3), (81, .aload_n 0, 1), (82, .getfield 239, 3), (85, .dup2, 1), (86, .iaload, 1), (87, .iconst 1, 1), (88, .iadd, 1), (89, .iastore, 1), (90, .return_, 1)]
set_option maxRecDepth 100000 in
theorem dec_X12_tellHill_1 : dcs cX12_tellHill DL_X12_tellHill_1 = true := by decide +kernel
theorem lb_X12_tellHill : lkB yX12_tellHill cX12_tellHill 3 (none) 0 := ⟨q_1277, q_14, ⟨by decide, by decide⟩, by decide +kernel⟩
theorem lv_X12_tellHill : lkV yX12_tellHill := ⟨q_1276, qs_77⟩
def F_X12_tellHill (a0 : Nat) (σ : hSt) : Option (hSt) :=
cR (σ.2.2 a0 24) (okr kM NM 101) fun z1 =>
cG (inb (σ.1 a0 19) (kM z1).2) <|
cL (((6 : Int32) * (σ.1 a0 19)) + (σ.1 z1 (σ.1 a0 19).toNatClampNeg)) fun v3 =>
cC (F_X12_named a0 σ) fun v5 σ6 =>
cR (σ6.2.2 a0 25) (okr kM NM 101) fun z7 =>
cC (F_X12_bounded a0 (0 : Int32) (99 : Int32) σ6) fun v9 σ10 =>
cG (inb v3 (kM z7).2) <|
cL (uI σ10 z7 v3.toNatClampNeg v9) fun σ12 =>
cR (σ12.2.2 a0 26) (okr kM NM 101) fun z13 =>
cC (F_X12_bounded a0 (0 : Int32) (99 : Int32) σ12) fun v15 σ16 =>
cG (inb v3 (kM z13).2) <|
cL (uI σ16 z13 v3.toNatClampNeg v15) fun σ18 =>
(F_X12_must a0 (4 : Int32) σ18).bind fun σ20 =>
if (σ20.1 a0 13) ≤ 0 then (
cR (σ20.2.2 a0 24) (okr kM NM 101) fun z21 =>
cG (inb (σ20.1 a0 19) (kM z21).2) <|
(F_X12_notes a0 v5 (0 : Int32) (σ20.1 z21 (σ20.1 a0 19).toNatClampNeg) σ20).bind fun σ24 =>
cR (σ24.2.2 a0 24) (okr kM NM 101) fun z25 =>
cL (σ24.1 a0 19) fun v26 =>
cG (inb v26 (kM z25).2) <|
cG (inb v26 (kM z25).2) <|
cL (uI σ24 z25 v26.toNatClampNeg ((σ24.1 z25 v26.toNatClampNeg) + (1 : Int32))) fun σ29 =>
some (σ29)) else (
some (σ20))
section
variable {p : Program} {l : Launch} {e : Env} {s : State} {m : MethodId} {args : Array Value} {below : List Frame} {meth : Method} {c : Code} {D : va_G} {ay : Nat → ClassId} {ad : Nat → Nat}
set_option maxRecDepth 100000 in
set_option maxHeartbeats 4000000 in
theorem B_X12_tellHill_0 {H : Heap} {locs : List Loc} {ls : Array Slot} {σ0 : hSt} (a0 : Nat) (σ : hSt) (G : Gx p m c cX12_tellHill 3 s args RX12 D ay NM ad (aN NM ad)) (hm : meth.sig.returnType = none ∧ meth.locks = false) (ok_a0 : okr kM NM 12 a0 = true) (hf : F_X12_tellHill a0 σ = some σ0)  (w : Wd D ay kM NM ad (aN NM ad) s σ H locs) (hl : lv_has ls 3 [(0, .ref (ad a0))]) : W p l e (rmK 4 84) s m args below meth c H locs 0 0 (MQ below (cV D ay kM NM ad σ0) args s 0 0 (aN NM ad)) (F0 m 0 ls []) := by
  have k_a0 := okr_in ok_a0
  unfold F_X12_tellHill at hf
  refine lv_bipush (v := (6 : Int32)) G.hx G.hb (dcs_get dec_X12_tellHill_0 0 rfl) (by decide) ?_
  refine lv_aload_n G.hx G.hb (dcs_get dec_X12_tellHill_0 1 rfl) rfl (lv_at hl 0 rfl) ?_
  refine r_geti (k := 19) cls12 fi_12_19.1 fi_12_19.2 q_1027 G w k_a0.1 k_a0.2 (dcs_get dec_X12_tellHill_0 2 rfl) ?_
  refine lv_imul G.hx G.hb (dcs_get dec_X12_tellHill_0 3 rfl) ?_
  refine lv_aload_n G.hx G.hb (dcs_get dec_X12_tellHill_0 4 rfl) rfl (lv_at hl 0 rfl) ?_
  obtain ⟨z1, e_z1, ok_z1, hf⟩ := cR_some hf
  have k_z1 := okr_in ok_z1
  refine r_getr (k := 24) cls12 fi_12_24.1 fi_12_24.2 q_1032 G w k_a0.1 k_a0.2 e_z1 (dcs_get dec_X12_tellHill_0 5 rfl) ?_
  refine lv_aload_n G.hx G.hb (dcs_get dec_X12_tellHill_0 6 rfl) rfl (lv_at hl 0 rfl) ?_
  refine r_geti (k := 19) cls12 fi_12_19.1 fi_12_19.2 q_1027 G w k_a0.1 k_a0.2 (dcs_get dec_X12_tellHill_0 7 rfl) ?_
  obtain ⟨h2, hf⟩ := cG_some hf
  refine r_iald G w k_z1.1 k_z1.2 h2 (dcs_get dec_X12_tellHill_0 8 rfl) ?_
  refine lv_iadd G.hx G.hb (dcs_get dec_X12_tellHill_0 9 rfl) ?_
  obtain ⟨v3, e_v3, hf⟩ := cL_some hf
  refine r_topi e_v3 ?_
  refine lv_istore_n (lv' := [(1, .int v3), (0, .ref (ad a0))]) G.hx G.hb (dcs_get dec_X12_tellHill_0 10 rfl) rfl hl (by decide) rfl (fun ls hl => ?_)
  refine lv_aload_n G.hx G.hb (dcs_get dec_X12_tellHill_0 11 rfl) rfl (lv_at hl 1 rfl) ?_
  obtain ⟨v5, σ6, h4, hf⟩ := cC_some hf
  refine a_i (k_V (As := []) (rest := []) cls12 lb_X12_named lv_X12_named q_1278 (C_X12_named G.2.2.1 a0 σ h4 ok_a0) ⟨(Nat.le_of_ble_eq_true rfl), (Nat.le_of_ble_eq_true rfl)⟩ G w k_a0.1 k_a0.2 rfl rfl hl.1 (Nat.le_of_ble_eq_true rfl) (dcs_get dec_X12_tellHill_0 12 rfl) ⟨Nat.le_refl _, Nat.le_refl _⟩) G w (fun H locs w => ?_)
  refine lv_istore_n (lv' := [(2, .int v5), (1, .int v3), (0, .ref (ad a0))]) G.hx G.hb (dcs_get dec_X12_tellHill_0 13 rfl) rfl hl (by decide) rfl (fun ls hl => ?_)
  refine lv_aload_n G.hx G.hb (dcs_get dec_X12_tellHill_0 14 rfl) rfl (lv_at hl 2 rfl) ?_
  obtain ⟨z7, e_z7, ok_z7, hf⟩ := cR_some hf
  have k_z7 := okr_in ok_z7
  refine r_getr (k := 25) cls12 fi_12_25.1 fi_12_25.2 q_1033 G w k_a0.1 k_a0.2 e_z7 (dcs_get dec_X12_tellHill_0 15 rfl) ?_
  refine lv_iload_n G.hx G.hb (dcs_get dec_X12_tellHill_0 16 rfl) rfl (lv_at hl 1 rfl) ?_
  refine lv_aload_n G.hx G.hb (dcs_get dec_X12_tellHill_0 17 rfl) rfl (lv_at hl 2 rfl) ?_
  refine lv_iconst (v := (0 : Int32)) G.hx G.hb (dcs_get dec_X12_tellHill_0 18 rfl) (by decide) ?_
  refine lv_bipush (v := (99 : Int32)) G.hx G.hb (dcs_get dec_X12_tellHill_0 19 rfl) (by decide) ?_
  obtain ⟨v9, σ10, h8, hf⟩ := cC_some hf
  refine a_i (k_V (As := [.int (0 : Int32), .int (99 : Int32)]) (rest := [.int v3, .ref (ad z7)]) cls12 lb_X12_bounded lv_X12_bounded q_1290 (C_X12_bounded G.2.2.1 a0 (0 : Int32) (99 : Int32) σ6 h8 ok_a0) ⟨(Nat.le_of_ble_eq_true rfl), (Nat.le_of_ble_eq_true rfl)⟩ G w k_a0.1 k_a0.2 rfl rfl hl.1 (Nat.le_of_ble_eq_true rfl) (dcs_get dec_X12_tellHill_0 20 rfl) ⟨Nat.le_refl _, Nat.le_refl _⟩) G w (fun H locs w => ?_)
  obtain ⟨h11, hf⟩ := cG_some hf
  obtain ⟨σ12, e_σ12, hf⟩ := cL_some hf
  refine r_iast G w k_z7.1 k_z7.2 h11 (dcs_get dec_X12_tellHill_0 21 rfl) (fun H locs w => ?_)
  have w := Wd.nm e_σ12 w
  refine lv_aload_n G.hx G.hb (dcs_get dec_X12_tellHill_0 22 rfl) rfl (lv_at hl 2 rfl) ?_
  obtain ⟨z13, e_z13, ok_z13, hf⟩ := cR_some hf
  have k_z13 := okr_in ok_z13
  refine r_getr (k := 26) cls12 fi_12_26.1 fi_12_26.2 q_1034 G w k_a0.1 k_a0.2 e_z13 (dcs_get dec_X12_tellHill_0 23 rfl) ?_
  refine lv_iload_n G.hx G.hb (dcs_get dec_X12_tellHill_0 24 rfl) rfl (lv_at hl 1 rfl) ?_
  refine lv_aload_n G.hx G.hb (dcs_get dec_X12_tellHill_0 25 rfl) rfl (lv_at hl 2 rfl) ?_
  refine lv_iconst (v := (0 : Int32)) G.hx G.hb (dcs_get dec_X12_tellHill_0 26 rfl) (by decide) ?_
  refine lv_bipush (v := (99 : Int32)) G.hx G.hb (dcs_get dec_X12_tellHill_0 27 rfl) (by decide) ?_
  obtain ⟨v15, σ16, h14, hf⟩ := cC_some hf
  refine a_i (k_V (As := [.int (0 : Int32), .int (99 : Int32)]) (rest := [.int v3, .ref (ad z13)]) cls12 lb_X12_bounded lv_X12_bounded q_1290 (C_X12_bounded G.2.2.1 a0 (0 : Int32) (99 : Int32) σ12 h14 ok_a0) ⟨(Nat.le_of_ble_eq_true rfl), (Nat.le_of_ble_eq_true rfl)⟩ G w k_a0.1 k_a0.2 rfl rfl hl.1 (Nat.le_of_ble_eq_true rfl) (dcs_get dec_X12_tellHill_0 28 rfl) ⟨Nat.le_refl _, Nat.le_refl _⟩) G w (fun H locs w => ?_)
  obtain ⟨h17, hf⟩ := cG_some hf
  obtain ⟨σ18, e_σ18, hf⟩ := cL_some hf
  refine r_iast G w k_z13.1 k_z13.2 h17 (dcs_get dec_X12_tellHill_0 29 rfl) (fun H locs w => ?_)
  have w := Wd.nm e_σ18 w
  refine lv_aload_n G.hx G.hb (dcs_get dec_X12_tellHill_0 30 rfl) rfl (lv_at hl 2 rfl) ?_
  refine lv_iconst (v := (4 : Int32)) G.hx G.hb (dcs_get dec_X12_tellHill_0 31 rfl) (by decide) ?_
  obtain ⟨σ20, h19, hf⟩ := cB_some hf
  refine a_v (k_V (As := [.int (4 : Int32)]) (rest := []) cls12 lb_X12_must lv_X12_must q_1282 (C_X12_must G.2.2.1 a0 (4 : Int32) σ18 h19 ok_a0) ⟨(Nat.le_of_ble_eq_true rfl), (Nat.le_of_ble_eq_true rfl)⟩ G w k_a0.1 k_a0.2 rfl rfl hl.1 (Nat.le_of_ble_eq_true rfl) (dcs_get dec_X12_tellHill_0 32 rfl) ⟨Nat.le_refl _, Nat.le_refl _⟩) G w (fun H locs w => ?_)
  refine lv_aload_n G.hx G.hb (dcs_get dec_X12_tellHill_0 33 rfl) rfl (lv_at hl 2 rfl) ?_
  refine r_geti (k := 13) cls12 fi_12_13.1 fi_12_13.2 q_1021 G w k_a0.1 k_a0.2 (dcs_get dec_X12_tellHill_0 34 rfl) ?_
  refine lv_if_le (tgt := 62) G.hx G.hb (dcs_get dec_X12_tellHill_0 35 rfl) (by decide) (fun hc => ?_) (fun hc => ?_)
  · rw [if_pos hc] at hf
    refine lv_aload_n G.hx G.hb (dcs_get dec_X12_tellHill_0 37 rfl) rfl (lv_at hl 2 rfl) ?_
    refine lv_iload_n G.hx G.hb (dcs_get dec_X12_tellHill_0 38 rfl) rfl (lv_at hl 0 rfl) ?_
    refine lv_iconst (v := (0 : Int32)) G.hx G.hb (dcs_get dec_X12_tellHill_0 39 rfl) (by decide) ?_
    refine lv_aload_n G.hx G.hb (dcs_get dec_X12_tellHill_1 0 rfl) rfl (lv_at hl 2 rfl) ?_
    obtain ⟨z21, e_z21, ok_z21, hf⟩ := cR_some hf
    have k_z21 := okr_in ok_z21
    refine r_getr (k := 24) cls12 fi_12_24.1 fi_12_24.2 q_1032 G w k_a0.1 k_a0.2 e_z21 (dcs_get dec_X12_tellHill_1 1 rfl) ?_
    refine lv_aload_n G.hx G.hb (dcs_get dec_X12_tellHill_1 2 rfl) rfl (lv_at hl 2 rfl) ?_
    refine r_geti (k := 19) cls12 fi_12_19.1 fi_12_19.2 q_1027 G w k_a0.1 k_a0.2 (dcs_get dec_X12_tellHill_1 3 rfl) ?_
    obtain ⟨h22, hf⟩ := cG_some hf
    refine r_iald G w k_z21.1 k_z21.2 h22 (dcs_get dec_X12_tellHill_1 4 rfl) ?_
    obtain ⟨σ24, h23, hf⟩ := cB_some hf
    refine a_v (k_V (As := [.int v5, .int (0 : Int32), .int (σ20.1 z21 (σ20.1 a0 19).toNatClampNeg)]) (rest := []) cls12 lb_X12_notes lv_X12_notes q_1294 (C_X12_notes G.2.2.1 a0 v5 (0 : Int32) (σ20.1 z21 (σ20.1 a0 19).toNatClampNeg) σ20 h23 ok_a0) ⟨(Nat.le_of_ble_eq_true rfl), (Nat.le_of_ble_eq_true rfl)⟩ G w k_a0.1 k_a0.2 rfl rfl hl.1 (Nat.le_of_ble_eq_true rfl) (dcs_get dec_X12_tellHill_1 5 rfl) ⟨Nat.le_refl _, Nat.le_refl _⟩) G w (fun H locs w => ?_)
    refine lv_aload_n G.hx G.hb (dcs_get dec_X12_tellHill_1 6 rfl) rfl (lv_at hl 2 rfl) ?_
    obtain ⟨z25, e_z25, ok_z25, hf⟩ := cR_some hf
    have k_z25 := okr_in ok_z25
    refine r_getr (k := 24) cls12 fi_12_24.1 fi_12_24.2 q_1032 G w k_a0.1 k_a0.2 e_z25 (dcs_get dec_X12_tellHill_1 7 rfl) ?_
    refine lv_aload_n G.hx G.hb (dcs_get dec_X12_tellHill_1 8 rfl) rfl (lv_at hl 2 rfl) ?_
    refine r_geti (k := 19) cls12 fi_12_19.1 fi_12_19.2 q_1027 G w k_a0.1 k_a0.2 (dcs_get dec_X12_tellHill_1 9 rfl) ?_
    obtain ⟨v26, e_v26, hf⟩ := cL_some hf
    refine r_topi e_v26 ?_
    refine lv_dup2_11 G.hx G.hb (dcs_get dec_X12_tellHill_1 10 rfl) rfl rfl ?_
    obtain ⟨h27, hf⟩ := cG_some hf
    refine r_iald G w k_z25.1 k_z25.2 h27 (dcs_get dec_X12_tellHill_1 11 rfl) ?_
    refine lv_iconst (v := (1 : Int32)) G.hx G.hb (dcs_get dec_X12_tellHill_1 12 rfl) (by decide) ?_
    refine lv_iadd G.hx G.hb (dcs_get dec_X12_tellHill_1 13 rfl) ?_
    obtain ⟨h28, hf⟩ := cG_some hf
    obtain ⟨σ29, e_σ29, hf⟩ := cL_some hf
    refine r_iast G w k_z25.1 k_z25.2 h28 (dcs_get dec_X12_tellHill_1 14 rfl) (fun H locs w => ?_)
    have w := Wd.nm e_σ29 w
    have e9 := Option.some.inj hf
    exact r_vret G w hm e9 (dcs_get dec_X12_tellHill_1 15 rfl)
  · rw [if_neg hc] at hf
    have e9 := Option.some.inj hf
    exact r_vret G w hm e9 (dcs_get dec_X12_tellHill_0 36 rfl)
end
set_option maxRecDepth 100000 in
set_option maxHeartbeats 4000000 in
theorem C_X12_tellHill {l : Launch} {D : va_G} {ay : Nat → ClassId} {ad : Nat → Nat} (hi : hInj NM ad) (a0 : Nat) (σ : hSt) {σ0 : hSt} (hf : F_X12_tellHill a0 σ = some σ0) (ok_a0 : okr kM NM 12 a0 = true) : hM l D ay kM NM ad yX12_tellHill cX12_tellHill 3 (none) (rmK 4 84) [.ref (ad a0)] σ (cV D ay kM NM ad σ0) := by
  refine hM_in (by decide) hi (Nat.le_of_ble_eq_true rfl) ?_
  intro p e s m below meth c G hm w ls hl
  exact B_X12_tellHill_0 a0 σ G hm ok_a0 hf w (lv_sub hl [0] rfl)

/-! HillDrumsModel.known(I)I -/
def DL_X12_known_0 : List (Nat × Instr × Nat) := [(0, .aload_n 0, 1), (1, .getfield 209, 3), (4, .istore_n 2, 1), (5, .aload_n 0, 1), (6, .iconst 1, 1), (7, .invokevirtual 270, 3), (10, .aload_n 0, 1), (11, .getfield 206, 3), (14, .ifCond .le 5, 3), (17, .iconst (-1), 1), (18, .ireturn, 1), (19, .iconst 0, 1), (20, .istore_n 3, 1), (21, .iload_n 3, 1), (22, .aload_n 0, 1), (23, .getfield 242, 3), (26, .if_icmp .ge 42, 3), (29, .aload_n 0, 1), (30, .getfield 40, 3), (33, .iload_n 3, 1), (34, .laload, 1), (35, .aload_n 0, 1), (36, .getfield 30, 3), (39, .iload_n 2, 1), (40, .laload, 1), (41, .lcmp, 1), (42, .ifCond .ne 20, 3), (45, .aload_n 0, 1), (46, .getfield 43, 3), (49, .iload_n 3, 1), (50, .iaload, 1), (51, .iload_n 1, 1), (52, .if_icmp .ne 10, 3), (55, .aload_n 0, 1), (56, .getfield 46, 3), (59, .iload_n 3, 1), (60, .iaload, 1), (61, .ireturn, 1), (62, .iinc 3 1, 3), (65, .goto (-44), 3)]
set_option maxRecDepth 100000 in
theorem dec_X12_known_0 : dcs cX12_known DL_X12_known_0 = true := by decide +kernel
def DL_X12_known_1 : List (Nat × Instr × Nat) := [(68, .aload_n 0, 1), (69, .iconst 4, 1), (70, .iload_n 2, 1), (71, .invokevirtual 282, 3), (74, .iconst (-1), 1), (75, .ireturn, 1)]
set_option maxRecDepth 100000 in
theorem dec_X12_known_1 : dcs cX12_known DL_X12_known_1 = true := by decide +kernel
theorem lb_X12_known : lkB yX12_known cX12_known 4 ((some .int)) 1 := ⟨q_1305, q_14, ⟨by decide, by decide⟩, by decide +kernel⟩
theorem lv_X12_known : lkV yX12_known := ⟨q_1304, qs_84⟩
def F_X12_known_62 (a0 : Nat) (l1 : Int32) (l2 : Int32) (l3 : Int32) (σ : hSt) : Option ((Int32) ⊕ (Int32 × hSt)) :=
cL (l3 + (1 : Int32)) fun v1 =>
some (.inl (v1))
def F_X12_known_21b (a0 : Nat) (l1 : Int32) (l2 : Int32) (l3 : Int32) (σ : hSt) : Option ((Int32) ⊕ (Int32 × hSt)) :=
if (σ.1 a0 20) ≤ l3 then (
(F_X12_wrong a0 (4 : Int32) l2 σ).bind fun σ3 =>
some (.inr (((-1 : Int32), σ3)))) else (
cR (σ.2.2 a0 21) (okr kM NM 103) fun z4 =>
cG (inb l3 (kM z4).2) <|
cR (σ.2.2 a0 8) (okr kM NM 103) fun z6 =>
cG (inb l2 (kM z6).2) <|
if (lg_cmp (σ.2.1 z4 l3.toNatClampNeg) (σ.2.1 z6 l2.toNatClampNeg)) = 0 then (
cR (σ.2.2 a0 22) (okr kM NM 101) fun z8 =>
cG (inb l3 (kM z8).2) <|
if (σ.1 z8 l3.toNatClampNeg) = l1 then (
cR (σ.2.2 a0 23) (okr kM NM 101) fun z10 =>
cG (inb l3 (kM z10).2) <|
some (.inr ((σ.1 z10 l3.toNatClampNeg, σ)))) else (
F_X12_known_62 a0 l1 l2 l3 σ)) else (
F_X12_known_62 a0 l1 l2 l3 σ))
def S_X12_known_21 (a0 : Nat) (l1 : Int32) (l2 : Int32) (σ : hSt) (v : Int32) : Option ((Int32) ⊕ (Int32 × hSt)) := F_X12_known_21b a0 l1 l2 v σ
def F_X12_known_21 (a0 : Nat) (l1 : Int32) (l2 : Int32) (l3 : Int32) (σ : hSt) : Option (Int32 × hSt) := lp (S_X12_known_21 a0 l1 l2 σ) fuel (l3)
def F_X12_known (a0 : Nat) (l1 : Int32) (σ : hSt) : Option (Int32 × hSt) :=
cL (σ.1 a0 11) fun v12 =>
(F_X12_must a0 (1 : Int32) σ).bind fun σ14 =>
if (σ14.1 a0 13) ≤ 0 then (
F_X12_known_21 a0 l1 v12 (0 : Int32) σ14) else (
some (((-1 : Int32), σ14)))
section
variable {p : Program} {l : Launch} {e : Env} {s : State} {m : MethodId} {args : Array Value} {below : List Frame} {meth : Method} {c : Code} {D : va_G} {ay : Nat → ClassId} {ad : Nat → Nat}
set_option maxRecDepth 100000 in
set_option maxHeartbeats 4000000 in
theorem B_X12_known_62 {H : Heap} {locs : List Loc} {ls : Array Slot} {r0 : Int32} {σ0 : hSt} {o : (Int32) ⊕ (Int32 × hSt)} (a0 : Nat) (l1 : Int32) (l2 : Int32) (l3 : Int32) (σ : hSt) (G : Gx p m c cX12_known 4 s args RX12 D ay NM ad (aN NM ad)) (hm : meth.sig.returnType = (some .int) ∧ meth.locks = false) (ok_a0 : okr kM NM 12 a0 = true) (hf : F_X12_known_62 a0 l1 l2 l3 σ = some o) (hb0 : ∀ (v : Int32), o = .inl v → ∀ (H : Heap) (locs : List Loc) (ls : Array Slot), Wd D ay kM NM ad (aN NM ad) s σ H locs → lv_has ls 4 [(0, .ref (ad a0)), (1, .int l1), (2, .int l2), (3, .int v)] → W p l e (rmK 3 62) s m args below meth c H locs 0 0 (MQ below (cI D ay kM NM ad r0 σ0) args s 0 0 (aN NM ad)) (F0 m 21 ls [])) (hr : ∀ x, o = .inr (x) → x = (r0, σ0)) (w : Wd D ay kM NM ad (aN NM ad) s σ H locs) (hl : lv_has ls 4 [(0, .ref (ad a0)), (1, .int l1), (2, .int l2), (3, .int l3)]) : W p l e (rmK 3 62) s m args below meth c H locs 0 0 (MQ below (cI D ay kM NM ad r0 σ0) args s 0 0 (aN NM ad)) (F0 m 62 ls []) := by
  have k_a0 := okr_in ok_a0
  unfold F_X12_known_62 at hf
  obtain ⟨v1, e_v1, hf⟩ := cL_some hf
  refine lv_iinc (v := v1) (lv' := [(3, .int v1), (0, .ref (ad a0)), (1, .int l1), (2, .int l2)]) G.hx G.hb (dcs_get dec_X12_known_0 38 rfl) hl (k := 3) rfl (by rw [e_v1]; rfl) (by decide) rfl (fun ls hl => ?_)
  refine lv_goto (tgt := 21) G.hx G.hb (dcs_get dec_X12_known_0 39 rfl) (by decide) ?_
  exact hb0 _ (Option.some.inj hf).symm _ _ _ w (lv_sub hl [1, 2, 3, 0] rfl)
set_option maxRecDepth 100000 in
set_option maxHeartbeats 4000000 in
theorem B_X12_known_21b {H : Heap} {locs : List Loc} {ls : Array Slot} {r0 : Int32} {σ0 : hSt} {o : (Int32) ⊕ (Int32 × hSt)} (a0 : Nat) (l1 : Int32) (l2 : Int32) (l3 : Int32) (σ : hSt) (G : Gx p m c cX12_known 4 s args RX12 D ay NM ad (aN NM ad)) (hm : meth.sig.returnType = (some .int) ∧ meth.locks = false) (ok_a0 : okr kM NM 12 a0 = true) (hf : F_X12_known_21b a0 l1 l2 l3 σ = some o) (hb0 : ∀ (v : Int32), o = .inl v → ∀ (H : Heap) (locs : List Loc) (ls : Array Slot), Wd D ay kM NM ad (aN NM ad) s σ H locs → lv_has ls 4 [(0, .ref (ad a0)), (1, .int l1), (2, .int l2), (3, .int v)] → W p l e (rmK 3 62) s m args below meth c H locs 0 0 (MQ below (cI D ay kM NM ad r0 σ0) args s 0 0 (aN NM ad)) (F0 m 21 ls [])) (hr : ∀ x, o = .inr (x) → x = (r0, σ0)) (w : Wd D ay kM NM ad (aN NM ad) s σ H locs) (hl : lv_has ls 4 [(0, .ref (ad a0)), (1, .int l1), (2, .int l2), (3, .int l3)]) : W p l e (rmK 3 62) s m args below meth c H locs 0 0 (MQ below (cI D ay kM NM ad r0 σ0) args s 0 0 (aN NM ad)) (F0 m 21 ls []) := by
  have k_a0 := okr_in ok_a0
  unfold F_X12_known_21b at hf
  refine lv_iload_n G.hx G.hb (dcs_get dec_X12_known_0 13 rfl) rfl (lv_at hl 3 rfl) ?_
  refine lv_aload_n G.hx G.hb (dcs_get dec_X12_known_0 14 rfl) rfl (lv_at hl 0 rfl) ?_
  refine r_geti (k := 20) cls12 fi_12_20.1 fi_12_20.2 q_1028 G w k_a0.1 k_a0.2 (dcs_get dec_X12_known_0 15 rfl) ?_
  refine lv_icmp_ge (tgt := 68) G.hx G.hb (dcs_get dec_X12_known_0 16 rfl) (by decide) (fun hc => ?_) (fun hc => ?_)
  · rw [if_pos hc] at hf
    refine lv_aload_n G.hx G.hb (dcs_get dec_X12_known_1 0 rfl) rfl (lv_at hl 0 rfl) ?_
    refine lv_iconst (v := (4 : Int32)) G.hx G.hb (dcs_get dec_X12_known_1 1 rfl) (by decide) ?_
    refine lv_iload_n G.hx G.hb (dcs_get dec_X12_known_1 2 rfl) rfl (lv_at hl 2 rfl) ?_
    obtain ⟨σ3, h2, hf⟩ := cB_some hf
    refine a_v (k_V (As := [.int (4 : Int32), .int l2]) (rest := []) cls12 lb_X12_wrong lv_X12_wrong q_1286 (C_X12_wrong G.2.2.1 a0 (4 : Int32) l2 σ h2 ok_a0) ⟨(Nat.le_of_ble_eq_true rfl), (Nat.le_of_ble_eq_true rfl)⟩ G w k_a0.1 k_a0.2 rfl rfl hl.1 (Nat.le_of_ble_eq_true rfl) (dcs_get dec_X12_known_1 3 rfl) ⟨Nat.le_refl _, Nat.le_refl _⟩) G w (fun H locs w => ?_)
    refine lv_iconst (v := (-1 : Int32)) G.hx G.hb (dcs_get dec_X12_known_1 4 rfl) (by decide) ?_
    have e9 := hr _ (Option.some.inj hf).symm
    exact r_iret G w hm (congrArg Prod.fst e9) (congrArg Prod.snd e9) (dcs_get dec_X12_known_1 5 rfl)
  · rw [if_neg hc] at hf
    refine lv_aload_n G.hx G.hb (dcs_get dec_X12_known_0 17 rfl) rfl (lv_at hl 0 rfl) ?_
    obtain ⟨z4, e_z4, ok_z4, hf⟩ := cR_some hf
    have k_z4 := okr_in ok_z4
    refine r_getr (k := 21) cls12 fi_12_21.1 fi_12_21.2 q_1029 G w k_a0.1 k_a0.2 e_z4 (dcs_get dec_X12_known_0 18 rfl) ?_
    refine lv_iload_n G.hx G.hb (dcs_get dec_X12_known_0 19 rfl) rfl (lv_at hl 3 rfl) ?_
    obtain ⟨h5, hf⟩ := cG_some hf
    refine r_lald G w k_z4.1 k_z4.2 h5 (dcs_get dec_X12_known_0 20 rfl) ?_
    refine lv_aload_n G.hx G.hb (dcs_get dec_X12_known_0 21 rfl) rfl (lv_at hl 0 rfl) ?_
    obtain ⟨z6, e_z6, ok_z6, hf⟩ := cR_some hf
    have k_z6 := okr_in ok_z6
    refine r_getr (k := 8) cls12 fi_12_8.1 fi_12_8.2 q_1016 G w k_a0.1 k_a0.2 e_z6 (dcs_get dec_X12_known_0 22 rfl) ?_
    refine lv_iload_n G.hx G.hb (dcs_get dec_X12_known_0 23 rfl) rfl (lv_at hl 2 rfl) ?_
    obtain ⟨h7, hf⟩ := cG_some hf
    refine r_lald G w k_z6.1 k_z6.2 h7 (dcs_get dec_X12_known_0 24 rfl) ?_
    refine W.lcmp G.hx G.hb (dcs_get dec_X12_known_0 25 rfl) ?_
    refine lv_if_ne (tgt := 62) G.hx G.hb (dcs_get dec_X12_known_0 26 rfl) (by decide) (fun hc => ?_) (fun hc => ?_)
    · rw [if_neg hc] at hf
      exact B_X12_known_62 a0 l1 l2 l3 σ G hm ok_a0 hf hb0 hr w (lv_sub hl [0, 1, 2, 3] rfl)
    · rw [if_pos hc] at hf
      refine lv_aload_n G.hx G.hb (dcs_get dec_X12_known_0 27 rfl) rfl (lv_at hl 0 rfl) ?_
      obtain ⟨z8, e_z8, ok_z8, hf⟩ := cR_some hf
      have k_z8 := okr_in ok_z8
      refine r_getr (k := 22) cls12 fi_12_22.1 fi_12_22.2 q_1030 G w k_a0.1 k_a0.2 e_z8 (dcs_get dec_X12_known_0 28 rfl) ?_
      refine lv_iload_n G.hx G.hb (dcs_get dec_X12_known_0 29 rfl) rfl (lv_at hl 3 rfl) ?_
      obtain ⟨h9, hf⟩ := cG_some hf
      refine r_iald G w k_z8.1 k_z8.2 h9 (dcs_get dec_X12_known_0 30 rfl) ?_
      refine lv_iload_n G.hx G.hb (dcs_get dec_X12_known_0 31 rfl) rfl (lv_at hl 1 rfl) ?_
      refine lv_icmp_ne (tgt := 62) G.hx G.hb (dcs_get dec_X12_known_0 32 rfl) (by decide) (fun hc => ?_) (fun hc => ?_)
      · rw [if_neg hc] at hf
        exact B_X12_known_62 a0 l1 l2 l3 σ G hm ok_a0 hf hb0 hr w (lv_sub hl [0, 1, 2, 3] rfl)
      · rw [if_pos hc] at hf
        refine lv_aload_n G.hx G.hb (dcs_get dec_X12_known_0 33 rfl) rfl (lv_at hl 0 rfl) ?_
        obtain ⟨z10, e_z10, ok_z10, hf⟩ := cR_some hf
        have k_z10 := okr_in ok_z10
        refine r_getr (k := 23) cls12 fi_12_23.1 fi_12_23.2 q_1031 G w k_a0.1 k_a0.2 e_z10 (dcs_get dec_X12_known_0 34 rfl) ?_
        refine lv_iload_n G.hx G.hb (dcs_get dec_X12_known_0 35 rfl) rfl (lv_at hl 3 rfl) ?_
        obtain ⟨h11, hf⟩ := cG_some hf
        refine r_iald G w k_z10.1 k_z10.2 h11 (dcs_get dec_X12_known_0 36 rfl) ?_
        have e9 := hr _ (Option.some.inj hf).symm
        exact r_iret G w hm (congrArg Prod.fst e9) (congrArg Prod.snd e9) (dcs_get dec_X12_known_0 37 rfl)
set_option maxRecDepth 100000 in
set_option maxHeartbeats 4000000 in
theorem H_X12_known_21 {r0 : Int32} {σ0 : hSt} (a0 : Nat) (l1 : Int32) (l2 : Int32) (σ : hSt) (G : Gx p m c cX12_known 4 s args RX12 D ay NM ad (aN NM ad)) (hm : meth.sig.returnType = (some .int) ∧ meth.locks = false) (ok_a0 : okr kM NM 12 a0 = true)  : ∀ (k : Nat) (v : Int32), lp (S_X12_known_21 a0 l1 l2 σ) k v = some (r0, σ0) → ∀ (H : Heap) (locs : List Loc) (ls : Array Slot), Wd D ay kM NM ad (aN NM ad) s σ H locs → lv_has ls 4 [(0, .ref (ad a0)), (1, .int l1), (2, .int l2), (3, .int v)] → W p l e (rmK 3 62) s m args below meth c H locs 0 0 (MQ below (cI D ay kM NM ad r0 σ0) args s 0 0 (aN NM ad)) (F0 m 21 ls []) := by
  intro k
  induction k with
  | zero => intro v hf; cases hf
  | succ k ih =>
    intro v hf H locs ls w hl
    obtain ⟨o1, h1, h2, h3⟩ := lp_some hf
    exact B_X12_known_21b a0 l1 l2 v σ G hm ok_a0 h1  (fun v' e => ih v' (h2 v' e)) (fun x e => h3 x e) w hl
set_option maxRecDepth 100000 in
set_option maxHeartbeats 4000000 in
theorem B_X12_known_21 {H : Heap} {locs : List Loc} {ls : Array Slot} {r0 : Int32} {σ0 : hSt} (a0 : Nat) (l1 : Int32) (l2 : Int32) (l3 : Int32) (σ : hSt) (G : Gx p m c cX12_known 4 s args RX12 D ay NM ad (aN NM ad)) (hm : meth.sig.returnType = (some .int) ∧ meth.locks = false) (ok_a0 : okr kM NM 12 a0 = true) (hf : F_X12_known_21 a0 l1 l2 l3 σ = some (r0, σ0))  (w : Wd D ay kM NM ad (aN NM ad) s σ H locs) (hl : lv_has ls 4 [(0, .ref (ad a0)), (1, .int l1), (2, .int l2), (3, .int l3)]) : W p l e (rmK 3 62) s m args below meth c H locs 0 0 (MQ below (cI D ay kM NM ad r0 σ0) args s 0 0 (aN NM ad)) (F0 m 21 ls []) := by
  unfold F_X12_known_21 at hf
  exact H_X12_known_21 a0 l1 l2 σ G hm ok_a0  fuel (l3) hf _ _ _ w hl
set_option maxRecDepth 100000 in
set_option maxHeartbeats 4000000 in
theorem B_X12_known_0 {H : Heap} {locs : List Loc} {ls : Array Slot} {r0 : Int32} {σ0 : hSt} (a0 : Nat) (l1 : Int32) (σ : hSt) (G : Gx p m c cX12_known 4 s args RX12 D ay NM ad (aN NM ad)) (hm : meth.sig.returnType = (some .int) ∧ meth.locks = false) (ok_a0 : okr kM NM 12 a0 = true) (hf : F_X12_known a0 l1 σ = some (r0, σ0))  (w : Wd D ay kM NM ad (aN NM ad) s σ H locs) (hl : lv_has ls 4 [(0, .ref (ad a0)), (1, .int l1)]) : W p l e (rmK 3 62) s m args below meth c H locs 0 0 (MQ below (cI D ay kM NM ad r0 σ0) args s 0 0 (aN NM ad)) (F0 m 0 ls []) := by
  have k_a0 := okr_in ok_a0
  unfold F_X12_known at hf
  refine lv_aload_n G.hx G.hb (dcs_get dec_X12_known_0 0 rfl) rfl (lv_at hl 0 rfl) ?_
  refine r_geti (k := 11) cls12 fi_12_11.1 fi_12_11.2 q_1019 G w k_a0.1 k_a0.2 (dcs_get dec_X12_known_0 1 rfl) ?_
  obtain ⟨v12, e_v12, hf⟩ := cL_some hf
  refine r_topi e_v12 ?_
  refine lv_istore_n (lv' := [(2, .int v12), (0, .ref (ad a0)), (1, .int l1)]) G.hx G.hb (dcs_get dec_X12_known_0 2 rfl) rfl hl (by decide) rfl (fun ls hl => ?_)
  refine lv_aload_n G.hx G.hb (dcs_get dec_X12_known_0 3 rfl) rfl (lv_at hl 1 rfl) ?_
  refine lv_iconst (v := (1 : Int32)) G.hx G.hb (dcs_get dec_X12_known_0 4 rfl) (by decide) ?_
  obtain ⟨σ14, h13, hf⟩ := cB_some hf
  refine a_v (k_V (As := [.int (1 : Int32)]) (rest := []) cls12 lb_X12_must lv_X12_must q_1282 (C_X12_must G.2.2.1 a0 (1 : Int32) σ h13 ok_a0) ⟨(Nat.le_of_ble_eq_true rfl), (Nat.le_of_ble_eq_true rfl)⟩ G w k_a0.1 k_a0.2 rfl rfl hl.1 (Nat.le_of_ble_eq_true rfl) (dcs_get dec_X12_known_0 5 rfl) ⟨Nat.le_refl _, Nat.le_refl _⟩) G w (fun H locs w => ?_)
  refine lv_aload_n G.hx G.hb (dcs_get dec_X12_known_0 6 rfl) rfl (lv_at hl 1 rfl) ?_
  refine r_geti (k := 13) cls12 fi_12_13.1 fi_12_13.2 q_1021 G w k_a0.1 k_a0.2 (dcs_get dec_X12_known_0 7 rfl) ?_
  refine lv_if_le (tgt := 19) G.hx G.hb (dcs_get dec_X12_known_0 8 rfl) (by decide) (fun hc => ?_) (fun hc => ?_)
  · rw [if_pos hc] at hf
    refine lv_iconst (v := (0 : Int32)) G.hx G.hb (dcs_get dec_X12_known_0 11 rfl) (by decide) ?_
    refine lv_istore_n (lv' := [(3, .int (0 : Int32)), (2, .int v12), (0, .ref (ad a0)), (1, .int l1)]) G.hx G.hb (dcs_get dec_X12_known_0 12 rfl) rfl hl (by decide) rfl (fun ls hl => ?_)
    exact B_X12_known_21 a0 l1 v12 (0 : Int32) σ14 G hm ok_a0 hf  w (lv_sub hl [2, 3, 1, 0] rfl)
  · rw [if_neg hc] at hf
    refine lv_iconst (v := (-1 : Int32)) G.hx G.hb (dcs_get dec_X12_known_0 9 rfl) (by decide) ?_
    have e9 := Option.some.inj hf
    exact r_iret G w hm (congrArg Prod.fst e9) (congrArg Prod.snd e9) (dcs_get dec_X12_known_0 10 rfl)
end
set_option maxRecDepth 100000 in
set_option maxHeartbeats 4000000 in
theorem C_X12_known {l : Launch} {D : va_G} {ay : Nat → ClassId} {ad : Nat → Nat} (hi : hInj NM ad) (a0 : Nat) (l1 : Int32) (σ : hSt) {r0 : Int32} {σ0 : hSt} (hf : F_X12_known a0 l1 σ = some (r0, σ0)) (ok_a0 : okr kM NM 12 a0 = true) : hM l D ay kM NM ad yX12_known cX12_known 4 ((some .int)) (rmK 3 62) [.ref (ad a0), .int l1] σ (cI D ay kM NM ad r0 σ0) := by
  refine hM_in (by decide) hi (Nat.le_of_ble_eq_true rfl) ?_
  intro p e s m below meth c G hm w ls hl
  exact B_X12_known_0 a0 l1 σ G hm ok_a0 hf w (lv_sub hl [0, 1] rfl)

/-! HillDrumsModel.tellNews()V -/
def DL_X12_tellNews_0 : List (Nat × Instr × Nat) := [(0, .iconst 4, 1), (1, .aload_n 0, 1), (2, .getfield 239, 3), (5, .imul, 1), (6, .aload_n 0, 1), (7, .getfield 58, 3), (10, .aload_n 0, 1), (11, .getfield 239, 3), (14, .iaload, 1), (15, .iadd, 1), (16, .istore_n 1, 1), (17, .aload_n 0, 1), (18, .invokevirtual 285, 3), (21, .istore_n 2, 1), (22, .aload_n 0, 1), (23, .bipush 22, 2), (25, .invokevirtual 270, 3), (28, .aload_n 0, 1), (29, .getfield 61, 3), (32, .iload_n 1, 1), (33, .aload_n 0, 1), (34, .iconst 0, 1), (35, .invokevirtual 297, 3), (38, .iastore, 1), (39, .aload_n 0, 1), (40, .iconst 4, 1), (41, .invokevirtual 270, 3), (44, .aload_n 0, 1), (45, .getfield 206, 3), (48, .ifCond .le 4, 3), (51, .return_, 1), (52, .aload_n 0, 1), (53, .iload_n 2, 1), (54, .iconst 1, 1), (55, .aload_n 0, 1), (56, .getfield 58, 3), (59, .aload_n 0, 1), (60, .getfield 239, 3), (63, .iaload, 1), (64, .invokevirtual 293, 3)]
set_option maxRecDepth 100000 in
theorem dec_X12_tellNews_0 : dcs cX12_tellNews DL_X12_tellNews_0 = true := by decide +kernel
def DL_X12_tellNews_1 : List (Nat × Instr × Nat) := [(67, .aload_n 0, 1), (68, .getfield 58, 3), (71, .aload_n 0, 1), (72, .getfield 239, 3), (75, .dup2, 1), (76, .iaload, 1), (77, .iconst 1, 1), (78, .iadd, 1), (79, .iastore, 1), (80, .return_, 1)]
set_option maxRecDepth 100000 in
theorem dec_X12_tellNews_1 : dcs cX12_tellNews DL_X12_tellNews_1 = true := by decide +kernel
theorem lb_X12_tellNews : lkB yX12_tellNews cX12_tellNews 3 (none) 0 := ⟨q_1301, q_14, ⟨by decide, by decide⟩, by decide +kernel⟩
theorem lv_X12_tellNews : lkV yX12_tellNews := ⟨q_1300, qs_83⟩
def F_X12_tellNews (a0 : Nat) (σ : hSt) : Option (hSt) :=
cR (σ.2.2 a0 27) (okr kM NM 101) fun z1 =>
cG (inb (σ.1 a0 19) (kM z1).2) <|
cL (((4 : Int32) * (σ.1 a0 19)) + (σ.1 z1 (σ.1 a0 19).toNatClampNeg)) fun v3 =>
cC (F_X12_named a0 σ) fun v5 σ6 =>
(F_X12_must a0 (22 : Int32) σ6).bind fun σ8 =>
cR (σ8.2.2 a0 28) (okr kM NM 101) fun z9 =>
cC (F_X12_known a0 (0 : Int32) σ8) fun v11 σ12 =>
cG (inb v3 (kM z9).2) <|
cL (uI σ12 z9 v3.toNatClampNeg v11) fun σ14 =>
(F_X12_must a0 (4 : Int32) σ14).bind fun σ16 =>
if (σ16.1 a0 13) ≤ 0 then (
cR (σ16.2.2 a0 27) (okr kM NM 101) fun z17 =>
cG (inb (σ16.1 a0 19) (kM z17).2) <|
(F_X12_notes a0 v5 (1 : Int32) (σ16.1 z17 (σ16.1 a0 19).toNatClampNeg) σ16).bind fun σ20 =>
cR (σ20.2.2 a0 27) (okr kM NM 101) fun z21 =>
cL (σ20.1 a0 19) fun v22 =>
cG (inb v22 (kM z21).2) <|
cG (inb v22 (kM z21).2) <|
cL (uI σ20 z21 v22.toNatClampNeg ((σ20.1 z21 v22.toNatClampNeg) + (1 : Int32))) fun σ25 =>
some (σ25)) else (
some (σ16))
section
variable {p : Program} {l : Launch} {e : Env} {s : State} {m : MethodId} {args : Array Value} {below : List Frame} {meth : Method} {c : Code} {D : va_G} {ay : Nat → ClassId} {ad : Nat → Nat}
set_option maxRecDepth 100000 in
set_option maxHeartbeats 4000000 in
theorem B_X12_tellNews_0 {H : Heap} {locs : List Loc} {ls : Array Slot} {σ0 : hSt} (a0 : Nat) (σ : hSt) (G : Gx p m c cX12_tellNews 3 s args RX12 D ay NM ad (aN NM ad)) (hm : meth.sig.returnType = none ∧ meth.locks = false) (ok_a0 : okr kM NM 12 a0 = true) (hf : F_X12_tellNews a0 σ = some σ0)  (w : Wd D ay kM NM ad (aN NM ad) s σ H locs) (hl : lv_has ls 3 [(0, .ref (ad a0))]) : W p l e (rmK 4 85) s m args below meth c H locs 0 0 (MQ below (cV D ay kM NM ad σ0) args s 0 0 (aN NM ad)) (F0 m 0 ls []) := by
  have k_a0 := okr_in ok_a0
  unfold F_X12_tellNews at hf
  refine lv_iconst (v := (4 : Int32)) G.hx G.hb (dcs_get dec_X12_tellNews_0 0 rfl) (by decide) ?_
  refine lv_aload_n G.hx G.hb (dcs_get dec_X12_tellNews_0 1 rfl) rfl (lv_at hl 0 rfl) ?_
  refine r_geti (k := 19) cls12 fi_12_19.1 fi_12_19.2 q_1027 G w k_a0.1 k_a0.2 (dcs_get dec_X12_tellNews_0 2 rfl) ?_
  refine lv_imul G.hx G.hb (dcs_get dec_X12_tellNews_0 3 rfl) ?_
  refine lv_aload_n G.hx G.hb (dcs_get dec_X12_tellNews_0 4 rfl) rfl (lv_at hl 0 rfl) ?_
  obtain ⟨z1, e_z1, ok_z1, hf⟩ := cR_some hf
  have k_z1 := okr_in ok_z1
  refine r_getr (k := 27) cls12 fi_12_27.1 fi_12_27.2 q_1035 G w k_a0.1 k_a0.2 e_z1 (dcs_get dec_X12_tellNews_0 5 rfl) ?_
  refine lv_aload_n G.hx G.hb (dcs_get dec_X12_tellNews_0 6 rfl) rfl (lv_at hl 0 rfl) ?_
  refine r_geti (k := 19) cls12 fi_12_19.1 fi_12_19.2 q_1027 G w k_a0.1 k_a0.2 (dcs_get dec_X12_tellNews_0 7 rfl) ?_
  obtain ⟨h2, hf⟩ := cG_some hf
  refine r_iald G w k_z1.1 k_z1.2 h2 (dcs_get dec_X12_tellNews_0 8 rfl) ?_
  refine lv_iadd G.hx G.hb (dcs_get dec_X12_tellNews_0 9 rfl) ?_
  obtain ⟨v3, e_v3, hf⟩ := cL_some hf
  refine r_topi e_v3 ?_
  refine lv_istore_n (lv' := [(1, .int v3), (0, .ref (ad a0))]) G.hx G.hb (dcs_get dec_X12_tellNews_0 10 rfl) rfl hl (by decide) rfl (fun ls hl => ?_)
  refine lv_aload_n G.hx G.hb (dcs_get dec_X12_tellNews_0 11 rfl) rfl (lv_at hl 1 rfl) ?_
  obtain ⟨v5, σ6, h4, hf⟩ := cC_some hf
  refine a_i (k_V (As := []) (rest := []) cls12 lb_X12_named lv_X12_named q_1278 (C_X12_named G.2.2.1 a0 σ h4 ok_a0) ⟨(Nat.le_of_ble_eq_true rfl), (Nat.le_of_ble_eq_true rfl)⟩ G w k_a0.1 k_a0.2 rfl rfl hl.1 (Nat.le_of_ble_eq_true rfl) (dcs_get dec_X12_tellNews_0 12 rfl) ⟨Nat.le_refl _, Nat.le_refl _⟩) G w (fun H locs w => ?_)
  refine lv_istore_n (lv' := [(2, .int v5), (1, .int v3), (0, .ref (ad a0))]) G.hx G.hb (dcs_get dec_X12_tellNews_0 13 rfl) rfl hl (by decide) rfl (fun ls hl => ?_)
  refine lv_aload_n G.hx G.hb (dcs_get dec_X12_tellNews_0 14 rfl) rfl (lv_at hl 2 rfl) ?_
  refine lv_bipush (v := (22 : Int32)) G.hx G.hb (dcs_get dec_X12_tellNews_0 15 rfl) (by decide) ?_
  obtain ⟨σ8, h7, hf⟩ := cB_some hf
  refine a_v (k_V (As := [.int (22 : Int32)]) (rest := []) cls12 lb_X12_must lv_X12_must q_1282 (C_X12_must G.2.2.1 a0 (22 : Int32) σ6 h7 ok_a0) ⟨(Nat.le_of_ble_eq_true rfl), (Nat.le_of_ble_eq_true rfl)⟩ G w k_a0.1 k_a0.2 rfl rfl hl.1 (Nat.le_of_ble_eq_true rfl) (dcs_get dec_X12_tellNews_0 16 rfl) ⟨Nat.le_refl _, Nat.le_refl _⟩) G w (fun H locs w => ?_)
  refine lv_aload_n G.hx G.hb (dcs_get dec_X12_tellNews_0 17 rfl) rfl (lv_at hl 2 rfl) ?_
  obtain ⟨z9, e_z9, ok_z9, hf⟩ := cR_some hf
  have k_z9 := okr_in ok_z9
  refine r_getr (k := 28) cls12 fi_12_28.1 fi_12_28.2 q_1036 G w k_a0.1 k_a0.2 e_z9 (dcs_get dec_X12_tellNews_0 18 rfl) ?_
  refine lv_iload_n G.hx G.hb (dcs_get dec_X12_tellNews_0 19 rfl) rfl (lv_at hl 1 rfl) ?_
  refine lv_aload_n G.hx G.hb (dcs_get dec_X12_tellNews_0 20 rfl) rfl (lv_at hl 2 rfl) ?_
  refine lv_iconst (v := (0 : Int32)) G.hx G.hb (dcs_get dec_X12_tellNews_0 21 rfl) (by decide) ?_
  obtain ⟨v11, σ12, h10, hf⟩ := cC_some hf
  refine a_i (k_V (As := [.int (0 : Int32)]) (rest := [.int v3, .ref (ad z9)]) cls12 lb_X12_known lv_X12_known q_1302 (C_X12_known G.2.2.1 a0 (0 : Int32) σ8 h10 ok_a0) ⟨(Nat.le_of_ble_eq_true rfl), (Nat.le_of_ble_eq_true rfl)⟩ G w k_a0.1 k_a0.2 rfl rfl hl.1 (Nat.le_of_ble_eq_true rfl) (dcs_get dec_X12_tellNews_0 22 rfl) ⟨Nat.le_refl _, Nat.le_refl _⟩) G w (fun H locs w => ?_)
  obtain ⟨h13, hf⟩ := cG_some hf
  obtain ⟨σ14, e_σ14, hf⟩ := cL_some hf
  refine r_iast G w k_z9.1 k_z9.2 h13 (dcs_get dec_X12_tellNews_0 23 rfl) (fun H locs w => ?_)
  have w := Wd.nm e_σ14 w
  refine lv_aload_n G.hx G.hb (dcs_get dec_X12_tellNews_0 24 rfl) rfl (lv_at hl 2 rfl) ?_
  refine lv_iconst (v := (4 : Int32)) G.hx G.hb (dcs_get dec_X12_tellNews_0 25 rfl) (by decide) ?_
  obtain ⟨σ16, h15, hf⟩ := cB_some hf
  refine a_v (k_V (As := [.int (4 : Int32)]) (rest := []) cls12 lb_X12_must lv_X12_must q_1282 (C_X12_must G.2.2.1 a0 (4 : Int32) σ14 h15 ok_a0) ⟨(Nat.le_of_ble_eq_true rfl), (Nat.le_of_ble_eq_true rfl)⟩ G w k_a0.1 k_a0.2 rfl rfl hl.1 (Nat.le_of_ble_eq_true rfl) (dcs_get dec_X12_tellNews_0 26 rfl) ⟨Nat.le_refl _, Nat.le_refl _⟩) G w (fun H locs w => ?_)
  refine lv_aload_n G.hx G.hb (dcs_get dec_X12_tellNews_0 27 rfl) rfl (lv_at hl 2 rfl) ?_
  refine r_geti (k := 13) cls12 fi_12_13.1 fi_12_13.2 q_1021 G w k_a0.1 k_a0.2 (dcs_get dec_X12_tellNews_0 28 rfl) ?_
  refine lv_if_le (tgt := 52) G.hx G.hb (dcs_get dec_X12_tellNews_0 29 rfl) (by decide) (fun hc => ?_) (fun hc => ?_)
  · rw [if_pos hc] at hf
    refine lv_aload_n G.hx G.hb (dcs_get dec_X12_tellNews_0 31 rfl) rfl (lv_at hl 2 rfl) ?_
    refine lv_iload_n G.hx G.hb (dcs_get dec_X12_tellNews_0 32 rfl) rfl (lv_at hl 0 rfl) ?_
    refine lv_iconst (v := (1 : Int32)) G.hx G.hb (dcs_get dec_X12_tellNews_0 33 rfl) (by decide) ?_
    refine lv_aload_n G.hx G.hb (dcs_get dec_X12_tellNews_0 34 rfl) rfl (lv_at hl 2 rfl) ?_
    obtain ⟨z17, e_z17, ok_z17, hf⟩ := cR_some hf
    have k_z17 := okr_in ok_z17
    refine r_getr (k := 27) cls12 fi_12_27.1 fi_12_27.2 q_1035 G w k_a0.1 k_a0.2 e_z17 (dcs_get dec_X12_tellNews_0 35 rfl) ?_
    refine lv_aload_n G.hx G.hb (dcs_get dec_X12_tellNews_0 36 rfl) rfl (lv_at hl 2 rfl) ?_
    refine r_geti (k := 19) cls12 fi_12_19.1 fi_12_19.2 q_1027 G w k_a0.1 k_a0.2 (dcs_get dec_X12_tellNews_0 37 rfl) ?_
    obtain ⟨h18, hf⟩ := cG_some hf
    refine r_iald G w k_z17.1 k_z17.2 h18 (dcs_get dec_X12_tellNews_0 38 rfl) ?_
    obtain ⟨σ20, h19, hf⟩ := cB_some hf
    refine a_v (k_V (As := [.int v5, .int (1 : Int32), .int (σ16.1 z17 (σ16.1 a0 19).toNatClampNeg)]) (rest := []) cls12 lb_X12_notes lv_X12_notes q_1294 (C_X12_notes G.2.2.1 a0 v5 (1 : Int32) (σ16.1 z17 (σ16.1 a0 19).toNatClampNeg) σ16 h19 ok_a0) ⟨(Nat.le_of_ble_eq_true rfl), (Nat.le_of_ble_eq_true rfl)⟩ G w k_a0.1 k_a0.2 rfl rfl hl.1 (Nat.le_of_ble_eq_true rfl) (dcs_get dec_X12_tellNews_0 39 rfl) ⟨Nat.le_refl _, Nat.le_refl _⟩) G w (fun H locs w => ?_)
    refine lv_aload_n G.hx G.hb (dcs_get dec_X12_tellNews_1 0 rfl) rfl (lv_at hl 2 rfl) ?_
    obtain ⟨z21, e_z21, ok_z21, hf⟩ := cR_some hf
    have k_z21 := okr_in ok_z21
    refine r_getr (k := 27) cls12 fi_12_27.1 fi_12_27.2 q_1035 G w k_a0.1 k_a0.2 e_z21 (dcs_get dec_X12_tellNews_1 1 rfl) ?_
    refine lv_aload_n G.hx G.hb (dcs_get dec_X12_tellNews_1 2 rfl) rfl (lv_at hl 2 rfl) ?_
    refine r_geti (k := 19) cls12 fi_12_19.1 fi_12_19.2 q_1027 G w k_a0.1 k_a0.2 (dcs_get dec_X12_tellNews_1 3 rfl) ?_
    obtain ⟨v22, e_v22, hf⟩ := cL_some hf
    refine r_topi e_v22 ?_
    refine lv_dup2_11 G.hx G.hb (dcs_get dec_X12_tellNews_1 4 rfl) rfl rfl ?_
    obtain ⟨h23, hf⟩ := cG_some hf
    refine r_iald G w k_z21.1 k_z21.2 h23 (dcs_get dec_X12_tellNews_1 5 rfl) ?_
    refine lv_iconst (v := (1 : Int32)) G.hx G.hb (dcs_get dec_X12_tellNews_1 6 rfl) (by decide) ?_
    refine lv_iadd G.hx G.hb (dcs_get dec_X12_tellNews_1 7 rfl) ?_
    obtain ⟨h24, hf⟩ := cG_some hf
    obtain ⟨σ25, e_σ25, hf⟩ := cL_some hf
    refine r_iast G w k_z21.1 k_z21.2 h24 (dcs_get dec_X12_tellNews_1 8 rfl) (fun H locs w => ?_)
    have w := Wd.nm e_σ25 w
    have e9 := Option.some.inj hf
    exact r_vret G w hm e9 (dcs_get dec_X12_tellNews_1 9 rfl)
  · rw [if_neg hc] at hf
    have e9 := Option.some.inj hf
    exact r_vret G w hm e9 (dcs_get dec_X12_tellNews_0 30 rfl)
end
set_option maxRecDepth 100000 in
set_option maxHeartbeats 4000000 in
theorem C_X12_tellNews {l : Launch} {D : va_G} {ay : Nat → ClassId} {ad : Nat → Nat} (hi : hInj NM ad) (a0 : Nat) (σ : hSt) {σ0 : hSt} (hf : F_X12_tellNews a0 σ = some σ0) (ok_a0 : okr kM NM 12 a0 = true) : hM l D ay kM NM ad yX12_tellNews cX12_tellNews 3 (none) (rmK 4 85) [.ref (ad a0)] σ (cV D ay kM NM ad σ0) := by
  refine hM_in (by decide) hi (Nat.le_of_ble_eq_true rfl) ?_
  intro p e s m below meth c G hm w ls hl
  exact B_X12_tellNews_0 a0 σ G hm ok_a0 hf w (lv_sub hl [0] rfl)

/-! HillDrumsModel.emit(II)V -/
def DL_X12_emit_0 : List (Nat × Instr × Nat) := [(0, .aload_n 0, 1), (1, .getfield 107, 3), (4, .aload_n 0, 1), (5, .getfield 248, 3), (8, .iload_n 1, 1), (9, .iastore, 1), (10, .aload_n 0, 1), (11, .getfield 110, 3), (14, .aload_n 0, 1), (15, .getfield 248, 3), (18, .iload_n 2, 1), (19, .iastore, 1), (20, .aload_n 0, 1), (21, .dup, 1), (22, .getfield 248, 3), (25, .iconst 1, 1), (26, .iadd, 1), (27, .putfield 248, 3), (30, .return_, 1)]
set_option maxRecDepth 100000 in
theorem dec_X12_emit_0 : dcs cX12_emit DL_X12_emit_0 = true := by decide +kernel
theorem lb_X12_emit : lkB yX12_emit cX12_emit 3 (none) 2 := ⟨q_1321, q_14, ⟨by decide, by decide⟩, by decide +kernel⟩
theorem lv_X12_emit : lkV yX12_emit := ⟨q_1320, qs_88⟩
def F_X12_emit (a0 : Nat) (l1 : Int32) (l2 : Int32) (σ : hSt) : Option (hSt) :=
cR (σ.2.2 a0 45) (okr kM NM 101) fun z1 =>
cG (inb (σ.1 a0 44) (kM z1).2) <|
cL (uI σ z1 (σ.1 a0 44).toNatClampNeg l1) fun σ3 =>
cR (σ3.2.2 a0 46) (okr kM NM 101) fun z4 =>
cG (inb (σ3.1 a0 44) (kM z4).2) <|
cL (uI σ3 z4 (σ3.1 a0 44).toNatClampNeg l2) fun σ6 =>
cL (uI σ6 a0 44 ((σ6.1 a0 44) + (1 : Int32))) fun σ7 =>
some (σ7)
section
variable {p : Program} {l : Launch} {e : Env} {s : State} {m : MethodId} {args : Array Value} {below : List Frame} {meth : Method} {c : Code} {D : va_G} {ay : Nat → ClassId} {ad : Nat → Nat}
set_option maxRecDepth 100000 in
set_option maxHeartbeats 4000000 in
theorem B_X12_emit_0 {H : Heap} {locs : List Loc} {ls : Array Slot} {σ0 : hSt} (a0 : Nat) (l1 : Int32) (l2 : Int32) (σ : hSt) (G : Gx p m c cX12_emit 3 s args RX12 D ay NM ad (aN NM ad)) (hm : meth.sig.returnType = none ∧ meth.locks = false) (ok_a0 : okr kM NM 12 a0 = true) (hf : F_X12_emit a0 l1 l2 σ = some σ0)  (w : Wd D ay kM NM ad (aN NM ad) s σ H locs) (hl : lv_has ls 3 [(0, .ref (ad a0)), (1, .int l1), (2, .int l2)]) : W p l e (rmK 0 0) s m args below meth c H locs 0 0 (MQ below (cV D ay kM NM ad σ0) args s 0 0 (aN NM ad)) (F0 m 0 ls []) := by
  have k_a0 := okr_in ok_a0
  unfold F_X12_emit at hf
  refine lv_aload_n G.hx G.hb (dcs_get dec_X12_emit_0 0 rfl) rfl (lv_at hl 0 rfl) ?_
  obtain ⟨z1, e_z1, ok_z1, hf⟩ := cR_some hf
  have k_z1 := okr_in ok_z1
  refine r_getr (k := 45) cls12 fi_12_45.1 fi_12_45.2 q_1053 G w k_a0.1 k_a0.2 e_z1 (dcs_get dec_X12_emit_0 1 rfl) ?_
  refine lv_aload_n G.hx G.hb (dcs_get dec_X12_emit_0 2 rfl) rfl (lv_at hl 0 rfl) ?_
  refine r_geti (k := 44) cls12 fi_12_44.1 fi_12_44.2 q_1052 G w k_a0.1 k_a0.2 (dcs_get dec_X12_emit_0 3 rfl) ?_
  refine lv_iload_n G.hx G.hb (dcs_get dec_X12_emit_0 4 rfl) rfl (lv_at hl 1 rfl) ?_
  obtain ⟨h2, hf⟩ := cG_some hf
  obtain ⟨σ3, e_σ3, hf⟩ := cL_some hf
  refine r_iast G w k_z1.1 k_z1.2 h2 (dcs_get dec_X12_emit_0 5 rfl) (fun H locs w => ?_)
  have w := Wd.nm e_σ3 w
  refine lv_aload_n G.hx G.hb (dcs_get dec_X12_emit_0 6 rfl) rfl (lv_at hl 0 rfl) ?_
  obtain ⟨z4, e_z4, ok_z4, hf⟩ := cR_some hf
  have k_z4 := okr_in ok_z4
  refine r_getr (k := 46) cls12 fi_12_46.1 fi_12_46.2 q_1054 G w k_a0.1 k_a0.2 e_z4 (dcs_get dec_X12_emit_0 7 rfl) ?_
  refine lv_aload_n G.hx G.hb (dcs_get dec_X12_emit_0 8 rfl) rfl (lv_at hl 0 rfl) ?_
  refine r_geti (k := 44) cls12 fi_12_44.1 fi_12_44.2 q_1052 G w k_a0.1 k_a0.2 (dcs_get dec_X12_emit_0 9 rfl) ?_
  refine lv_iload_n G.hx G.hb (dcs_get dec_X12_emit_0 10 rfl) rfl (lv_at hl 2 rfl) ?_
  obtain ⟨h5, hf⟩ := cG_some hf
  obtain ⟨σ6, e_σ6, hf⟩ := cL_some hf
  refine r_iast G w k_z4.1 k_z4.2 h5 (dcs_get dec_X12_emit_0 11 rfl) (fun H locs w => ?_)
  have w := Wd.nm e_σ6 w
  refine lv_aload_n G.hx G.hb (dcs_get dec_X12_emit_0 12 rfl) rfl (lv_at hl 0 rfl) ?_
  refine lv_dup G.hx G.hb (dcs_get dec_X12_emit_0 13 rfl) rfl ?_
  refine r_geti (k := 44) cls12 fi_12_44.1 fi_12_44.2 q_1052 G w k_a0.1 k_a0.2 (dcs_get dec_X12_emit_0 14 rfl) ?_
  refine lv_iconst (v := (1 : Int32)) G.hx G.hb (dcs_get dec_X12_emit_0 15 rfl) (by decide) ?_
  refine lv_iadd G.hx G.hb (dcs_get dec_X12_emit_0 16 rfl) ?_
  obtain ⟨σ7, e_σ7, hf⟩ := cL_some hf
  refine r_puti (k := 44) cls12 ct12 fi_12_44.1 fi_12_44.2 fp_12_44.1 fp_12_44.2 q_1052 rfl rfl G w k_a0.1 k_a0.2 (dcs_get dec_X12_emit_0 17 rfl) (fun H locs w => ?_)
  have w := Wd.nm e_σ7 w
  have e9 := Option.some.inj hf
  exact r_vret G w hm e9 (dcs_get dec_X12_emit_0 18 rfl)
end
set_option maxRecDepth 100000 in
set_option maxHeartbeats 4000000 in
theorem C_X12_emit {l : Launch} {D : va_G} {ay : Nat → ClassId} {ad : Nat → Nat} (hi : hInj NM ad) (a0 : Nat) (l1 : Int32) (l2 : Int32) (σ : hSt) {σ0 : hSt} (hf : F_X12_emit a0 l1 l2 σ = some σ0) (ok_a0 : okr kM NM 12 a0 = true) : hM l D ay kM NM ad yX12_emit cX12_emit 3 (none) (rmK 0 0) [.ref (ad a0), .int l1, .int l2] σ (cV D ay kM NM ad σ0) := by
  refine hM_in (by decide) hi (Nat.le_of_ble_eq_true rfl) ?_
  intro p e s m below meth c G hm w ls hl
  exact B_X12_emit_0 a0 l1 l2 σ G hm ok_a0 hf w (lv_sub hl [0, 1, 2] rfl)

/-! HillDrumsModel.unit()V -/
def DL_X12_unit_0 : List (Nat × Instr × Nat) := [(0, .aload_n 0, 1), (1, .iconst 2, 1), (2, .invokevirtual 224, 3), (5, .ifCond .eq 24, 3), (8, .aload_n 0, 1), (9, .iconst 0, 1), (10, .aload_n 0, 1), (11, .getfield 27, 3), (14, .aload_n 0, 1), (15, .getfield 209, 3), (18, .iaload, 1), (19, .invokevirtual 309, 3), (22, .aload_n 0, 1), (23, .invokevirtual 227, 3), (26, .goto 126, 3), (29, .aload_n 0, 1), (30, .getfield 206, 3), (33, .ifCond .ne 114, 3), (36, .aload_n 0, 1), (37, .getfield 20, 3), (40, .aload_n 0, 1), (41, .getfield 209, 3), (44, .iaload, 1), (45, .bipush 35, 2), (47, .if_icmp .lt 17, 3), (50, .aload_n 0, 1), (51, .getfield 20, 3), (54, .aload_n 0, 1), (55, .getfield 209, 3), (58, .iaload, 1), (59, .bipush 38, 2), (61, .if_icmp .le 21, 3), (64, .aload_n 0, 1), (65, .bipush 24, 2), (67, .invokevirtual 224, 3), (70, .ifCond .ne 12, 3), (73, .aload_n 0, 1), (74, .bipush 25, 2), (76, .invokevirtual 224, 3), (79, .ifCond .eq 68, 3)]
set_option maxRecDepth 100000 in
theorem dec_X12_unit_0 : dcs cX12_unit DL_X12_unit_0 = true := by decide +kernel
def DL_X12_unit_1 : List (Nat × Instr × Nat) := [(82, .aload_n 0, 1), (83, .iconst 1, 1), (84, .aload_n 0, 1), (85, .bipush 24, 2), (87, .invokevirtual 224, 3), (90, .ifCond .eq 7, 3), (93, .iconst 1, 1), (94, .goto 43, 3), (97, .aload_n 0, 1), (98, .bipush 25, 2), (100, .invokevirtual 224, 3), (103, .ifCond .eq 7, 3), (106, .iconst 2, 1), (107, .goto 30, 3), (110, .aload_n 0, 1), (111, .bipush 35, 2), (113, .invokevirtual 224, 3), (116, .ifCond .eq 7, 3), (119, .iconst 0, 1), (120, .goto 17, 3), (123, .aload_n 0, 1), (124, .getfield 20, 3), (127, .aload_n 0, 1), (128, .getfield 209, 3), (131, .iaload, 1), (132, .bipush 36, 2), (134, .isub, 1), (135, .iconst 3, 1), (136, .iadd, 1), (137, .invokevirtual 309, 3), (140, .aload_n 0, 1), (141, .invokevirtual 227, 3), (144, .goto 8, 3), (147, .aload_n 0, 1), (148, .iconst 1, 1), (149, .invokevirtual 221, 3), (152, .return_, 1)]
set_option maxRecDepth 100000 in
theorem dec_X12_unit_1 : dcs cX12_unit DL_X12_unit_1 = true := by decide +kernel
theorem lb_X12_unit : lkB yX12_unit cX12_unit 1 (none) 0 := ⟨q_1317, q_14, ⟨by decide, by decide⟩, by decide +kernel⟩
theorem lv_X12_unit : lkV yX12_unit := ⟨q_1316, qs_87⟩
def F_X12_unit_152  (σ : hSt) : Option (hSt) :=
some (σ)
def F_X12_unit_137 (a0 : Nat) (s0 : Nat) (s1 : Int32) (s2 : Int32) (σ : hSt) : Option (hSt) :=
(F_X12_emit s0 s1 s2 σ).bind fun σ2 =>
(F_X12_goesOn a0 σ2).bind fun σ4 =>
F_X12_unit_152  σ4
def F_X12_unit_82 (a0 : Nat) (σ : hSt) : Option (hSt) :=
(F_X12_is a0 (24 : Int32) σ).bind fun v6 =>
if v6 = 0 then (
(F_X12_is a0 (25 : Int32) σ).bind fun v8 =>
if v8 = 0 then (
(F_X12_is a0 (35 : Int32) σ).bind fun v10 =>
if v10 = 0 then (
cR (σ.2.2 a0 5) (okr kM NM 101) fun z11 =>
cG (inb (σ.1 a0 11) (kM z11).2) <|
F_X12_unit_137 a0 a0 (1 : Int32) (((σ.1 z11 (σ.1 a0 11).toNatClampNeg) - (36 : Int32)) + (3 : Int32)) σ) else (
F_X12_unit_137 a0 a0 (1 : Int32) (0 : Int32) σ)) else (
F_X12_unit_137 a0 a0 (1 : Int32) (2 : Int32) σ)) else (
F_X12_unit_137 a0 a0 (1 : Int32) (1 : Int32) σ)
def F_X12_unit_147 (a0 : Nat) (σ : hSt) : Option (hSt) :=
(F_X12_fail a0 (1 : Int32) σ).bind fun σ14 =>
F_X12_unit_152  σ14
def F_X12_unit_64 (a0 : Nat) (σ : hSt) : Option (hSt) :=
(F_X12_is a0 (24 : Int32) σ).bind fun v16 =>
if v16 = 0 then (
(F_X12_is a0 (25 : Int32) σ).bind fun v18 =>
if v18 = 0 then (
F_X12_unit_147 a0 σ) else (
F_X12_unit_82 a0 σ)) else (
F_X12_unit_82 a0 σ)
def F_X12_unit (a0 : Nat) (σ : hSt) : Option (hSt) :=
(F_X12_is a0 (2 : Int32) σ).bind fun v20 =>
if v20 = 0 then (
if (σ.1 a0 13) = 0 then (
cR (σ.2.2 a0 5) (okr kM NM 101) fun z21 =>
cG (inb (σ.1 a0 11) (kM z21).2) <|
if (σ.1 z21 (σ.1 a0 11).toNatClampNeg) < (35 : Int32) then (
F_X12_unit_64 a0 σ) else (
cR (σ.2.2 a0 5) (okr kM NM 101) fun z23 =>
cG (inb (σ.1 a0 11) (kM z23).2) <|
if (σ.1 z23 (σ.1 a0 11).toNatClampNeg) ≤ (38 : Int32) then (
F_X12_unit_82 a0 σ) else (
F_X12_unit_64 a0 σ))) else (
F_X12_unit_147 a0 σ)) else (
cR (σ.2.2 a0 7) (okr kM NM 101) fun z25 =>
cG (inb (σ.1 a0 11) (kM z25).2) <|
(F_X12_emit a0 (0 : Int32) (σ.1 z25 (σ.1 a0 11).toNatClampNeg) σ).bind fun σ28 =>
(F_X12_goesOn a0 σ28).bind fun σ30 =>
F_X12_unit_152  σ30)
section
variable {p : Program} {l : Launch} {e : Env} {s : State} {m : MethodId} {args : Array Value} {below : List Frame} {meth : Method} {c : Code} {D : va_G} {ay : Nat → ClassId} {ad : Nat → Nat}
set_option maxRecDepth 100000 in
set_option maxHeartbeats 4000000 in
theorem B_X12_unit_152 {H : Heap} {locs : List Loc} {ls : Array Slot} {σ0 : hSt}  (σ : hSt) (G : Gx p m c cX12_unit 1 s args RX12 D ay NM ad (aN NM ad)) (hm : meth.sig.returnType = none ∧ meth.locks = false)  (hf : F_X12_unit_152  σ = some σ0)  (w : Wd D ay kM NM ad (aN NM ad) s σ H locs) (hl : lv_has ls 1 []) : W p l e (rmK 2 41) s m args below meth c H locs 0 0 (MQ below (cV D ay kM NM ad σ0) args s 0 0 (aN NM ad)) (F0 m 152 ls []) := by
  unfold F_X12_unit_152 at hf
  have e9 := Option.some.inj hf
  exact r_vret G w hm e9 (dcs_get dec_X12_unit_1 36 rfl)
set_option maxRecDepth 100000 in
set_option maxHeartbeats 4000000 in
theorem B_X12_unit_137 {H : Heap} {locs : List Loc} {ls : Array Slot} {σ0 : hSt} (a0 : Nat) (s0 : Nat) (s1 : Int32) (s2 : Int32) (σ : hSt) (G : Gx p m c cX12_unit 1 s args RX12 D ay NM ad (aN NM ad)) (hm : meth.sig.returnType = none ∧ meth.locks = false) (ok_a0 : okr kM NM 12 a0 = true) (ok_s0 : okr kM NM 12 s0 = true) (hf : F_X12_unit_137 a0 s0 s1 s2 σ = some σ0)  (w : Wd D ay kM NM ad (aN NM ad) s σ H locs) (hl : lv_has ls 1 [(0, .ref (ad a0))]) : W p l e (rmK 2 41) s m args below meth c H locs 0 0 (MQ below (cV D ay kM NM ad σ0) args s 0 0 (aN NM ad)) (F0 m 137 ls [.int s2, .int s1, .ref (ad s0)]) := by
  have k_a0 := okr_in ok_a0
  have k_s0 := okr_in ok_s0
  unfold F_X12_unit_137 at hf
  obtain ⟨σ2, h1, hf⟩ := cB_some hf
  refine a_v (k_V (As := [.int s1, .int s2]) (rest := []) cls12 lb_X12_emit lv_X12_emit q_1318 (C_X12_emit G.2.2.1 s0 s1 s2 σ h1 ok_s0) ⟨(Nat.le_of_ble_eq_true rfl), (Nat.le_of_ble_eq_true rfl)⟩ G w k_s0.1 k_s0.2 rfl rfl hl.1 (Nat.le_of_ble_eq_true rfl) (dcs_get dec_X12_unit_1 29 rfl) ⟨Nat.le_refl _, Nat.le_refl _⟩) G w (fun H locs w => ?_)
  refine lv_aload_n G.hx G.hb (dcs_get dec_X12_unit_1 30 rfl) rfl (lv_at hl 0 rfl) ?_
  obtain ⟨σ4, h3, hf⟩ := cB_some hf
  refine a_v (k_V (As := []) (rest := []) cls12 lb_X12_goesOn lv_X12_goesOn q_1270 (C_X12_goesOn G.2.2.1 a0 σ2 h3 ok_a0) ⟨(Nat.le_of_ble_eq_true rfl), (Nat.le_of_ble_eq_true rfl)⟩ G w k_a0.1 k_a0.2 rfl rfl hl.1 (Nat.le_of_ble_eq_true rfl) (dcs_get dec_X12_unit_1 31 rfl) ⟨Nat.le_refl _, Nat.le_refl _⟩) G w (fun H locs w => ?_)
  refine lv_goto (tgt := 152) G.hx G.hb (dcs_get dec_X12_unit_1 32 rfl) (by decide) ?_
  exact B_X12_unit_152  σ4 G hm  hf  w (lv_sub hl [] rfl)
set_option maxRecDepth 100000 in
set_option maxHeartbeats 4000000 in
theorem B_X12_unit_82 {H : Heap} {locs : List Loc} {ls : Array Slot} {σ0 : hSt} (a0 : Nat) (σ : hSt) (G : Gx p m c cX12_unit 1 s args RX12 D ay NM ad (aN NM ad)) (hm : meth.sig.returnType = none ∧ meth.locks = false) (ok_a0 : okr kM NM 12 a0 = true) (hf : F_X12_unit_82 a0 σ = some σ0)  (w : Wd D ay kM NM ad (aN NM ad) s σ H locs) (hl : lv_has ls 1 [(0, .ref (ad a0))]) : W p l e (rmK 2 41) s m args below meth c H locs 0 0 (MQ below (cV D ay kM NM ad σ0) args s 0 0 (aN NM ad)) (F0 m 82 ls []) := by
  have k_a0 := okr_in ok_a0
  unfold F_X12_unit_82 at hf
  refine lv_aload_n G.hx G.hb (dcs_get dec_X12_unit_1 0 rfl) rfl (lv_at hl 0 rfl) ?_
  refine lv_iconst (v := (1 : Int32)) G.hx G.hb (dcs_get dec_X12_unit_1 1 rfl) (by decide) ?_
  refine lv_aload_n G.hx G.hb (dcs_get dec_X12_unit_1 2 rfl) rfl (lv_at hl 0 rfl) ?_
  refine lv_bipush (v := (24 : Int32)) G.hx G.hb (dcs_get dec_X12_unit_1 3 rfl) (by decide) ?_
  obtain ⟨v6, h5, hf⟩ := cB_some hf
  refine a_i (k_V (As := [.int (24 : Int32)]) (rest := [.int (1 : Int32), .ref (ad a0)]) cls12 lb_X12_is lv_X12_is q_1254 (C_X12_is G.2.2.1 a0 (24 : Int32) σ h5 ok_a0) ⟨(Nat.le_of_ble_eq_true rfl), (Nat.le_of_ble_eq_true rfl)⟩ G w k_a0.1 k_a0.2 rfl rfl hl.1 (Nat.le_of_ble_eq_true rfl) (dcs_get dec_X12_unit_1 4 rfl) ⟨Nat.le_refl _, Nat.le_refl _⟩) G w (fun H locs w => ?_)
  refine lv_if_eq (tgt := 97) G.hx G.hb (dcs_get dec_X12_unit_1 5 rfl) (by decide) (fun hc => ?_) (fun hc => ?_)
  · rw [if_pos hc] at hf
    refine lv_aload_n G.hx G.hb (dcs_get dec_X12_unit_1 8 rfl) rfl (lv_at hl 0 rfl) ?_
    refine lv_bipush (v := (25 : Int32)) G.hx G.hb (dcs_get dec_X12_unit_1 9 rfl) (by decide) ?_
    obtain ⟨v8, h7, hf⟩ := cB_some hf
    refine a_i (k_V (As := [.int (25 : Int32)]) (rest := [.int (1 : Int32), .ref (ad a0)]) cls12 lb_X12_is lv_X12_is q_1254 (C_X12_is G.2.2.1 a0 (25 : Int32) σ h7 ok_a0) ⟨(Nat.le_of_ble_eq_true rfl), (Nat.le_of_ble_eq_true rfl)⟩ G w k_a0.1 k_a0.2 rfl rfl hl.1 (Nat.le_of_ble_eq_true rfl) (dcs_get dec_X12_unit_1 10 rfl) ⟨Nat.le_refl _, Nat.le_refl _⟩) G w (fun H locs w => ?_)
    refine lv_if_eq (tgt := 110) G.hx G.hb (dcs_get dec_X12_unit_1 11 rfl) (by decide) (fun hc => ?_) (fun hc => ?_)
    · rw [if_pos hc] at hf
      refine lv_aload_n G.hx G.hb (dcs_get dec_X12_unit_1 14 rfl) rfl (lv_at hl 0 rfl) ?_
      refine lv_bipush (v := (35 : Int32)) G.hx G.hb (dcs_get dec_X12_unit_1 15 rfl) (by decide) ?_
      obtain ⟨v10, h9, hf⟩ := cB_some hf
      refine a_i (k_V (As := [.int (35 : Int32)]) (rest := [.int (1 : Int32), .ref (ad a0)]) cls12 lb_X12_is lv_X12_is q_1254 (C_X12_is G.2.2.1 a0 (35 : Int32) σ h9 ok_a0) ⟨(Nat.le_of_ble_eq_true rfl), (Nat.le_of_ble_eq_true rfl)⟩ G w k_a0.1 k_a0.2 rfl rfl hl.1 (Nat.le_of_ble_eq_true rfl) (dcs_get dec_X12_unit_1 16 rfl) ⟨Nat.le_refl _, Nat.le_refl _⟩) G w (fun H locs w => ?_)
      refine lv_if_eq (tgt := 123) G.hx G.hb (dcs_get dec_X12_unit_1 17 rfl) (by decide) (fun hc => ?_) (fun hc => ?_)
      · rw [if_pos hc] at hf
        refine lv_aload_n G.hx G.hb (dcs_get dec_X12_unit_1 20 rfl) rfl (lv_at hl 0 rfl) ?_
        obtain ⟨z11, e_z11, ok_z11, hf⟩ := cR_some hf
        have k_z11 := okr_in ok_z11
        refine r_getr (k := 5) cls12 fi_12_5.1 fi_12_5.2 q_1013 G w k_a0.1 k_a0.2 e_z11 (dcs_get dec_X12_unit_1 21 rfl) ?_
        refine lv_aload_n G.hx G.hb (dcs_get dec_X12_unit_1 22 rfl) rfl (lv_at hl 0 rfl) ?_
        refine r_geti (k := 11) cls12 fi_12_11.1 fi_12_11.2 q_1019 G w k_a0.1 k_a0.2 (dcs_get dec_X12_unit_1 23 rfl) ?_
        obtain ⟨h12, hf⟩ := cG_some hf
        refine r_iald G w k_z11.1 k_z11.2 h12 (dcs_get dec_X12_unit_1 24 rfl) ?_
        refine lv_bipush (v := (36 : Int32)) G.hx G.hb (dcs_get dec_X12_unit_1 25 rfl) (by decide) ?_
        refine lv_isub G.hx G.hb (dcs_get dec_X12_unit_1 26 rfl) ?_
        refine lv_iconst (v := (3 : Int32)) G.hx G.hb (dcs_get dec_X12_unit_1 27 rfl) (by decide) ?_
        refine lv_iadd G.hx G.hb (dcs_get dec_X12_unit_1 28 rfl) ?_
        exact B_X12_unit_137 a0 a0 (1 : Int32) (((σ.1 z11 (σ.1 a0 11).toNatClampNeg) - (36 : Int32)) + (3 : Int32)) σ G hm ok_a0 ok_a0 hf  w (lv_sub hl [0] rfl)
      · rw [if_neg hc] at hf
        refine lv_iconst (v := (0 : Int32)) G.hx G.hb (dcs_get dec_X12_unit_1 18 rfl) (by decide) ?_
        refine lv_goto (tgt := 137) G.hx G.hb (dcs_get dec_X12_unit_1 19 rfl) (by decide) ?_
        exact B_X12_unit_137 a0 a0 (1 : Int32) (0 : Int32) σ G hm ok_a0 ok_a0 hf  w (lv_sub hl [0] rfl)
    · rw [if_neg hc] at hf
      refine lv_iconst (v := (2 : Int32)) G.hx G.hb (dcs_get dec_X12_unit_1 12 rfl) (by decide) ?_
      refine lv_goto (tgt := 137) G.hx G.hb (dcs_get dec_X12_unit_1 13 rfl) (by decide) ?_
      exact B_X12_unit_137 a0 a0 (1 : Int32) (2 : Int32) σ G hm ok_a0 ok_a0 hf  w (lv_sub hl [0] rfl)
  · rw [if_neg hc] at hf
    refine lv_iconst (v := (1 : Int32)) G.hx G.hb (dcs_get dec_X12_unit_1 6 rfl) (by decide) ?_
    refine lv_goto (tgt := 137) G.hx G.hb (dcs_get dec_X12_unit_1 7 rfl) (by decide) ?_
    exact B_X12_unit_137 a0 a0 (1 : Int32) (1 : Int32) σ G hm ok_a0 ok_a0 hf  w (lv_sub hl [0] rfl)
set_option maxRecDepth 100000 in
set_option maxHeartbeats 4000000 in
theorem B_X12_unit_147 {H : Heap} {locs : List Loc} {ls : Array Slot} {σ0 : hSt} (a0 : Nat) (σ : hSt) (G : Gx p m c cX12_unit 1 s args RX12 D ay NM ad (aN NM ad)) (hm : meth.sig.returnType = none ∧ meth.locks = false) (ok_a0 : okr kM NM 12 a0 = true) (hf : F_X12_unit_147 a0 σ = some σ0)  (w : Wd D ay kM NM ad (aN NM ad) s σ H locs) (hl : lv_has ls 1 [(0, .ref (ad a0))]) : W p l e (rmK 2 41) s m args below meth c H locs 0 0 (MQ below (cV D ay kM NM ad σ0) args s 0 0 (aN NM ad)) (F0 m 147 ls []) := by
  have k_a0 := okr_in ok_a0
  unfold F_X12_unit_147 at hf
  refine lv_aload_n G.hx G.hb (dcs_get dec_X12_unit_1 33 rfl) rfl (lv_at hl 0 rfl) ?_
  refine lv_iconst (v := (1 : Int32)) G.hx G.hb (dcs_get dec_X12_unit_1 34 rfl) (by decide) ?_
  obtain ⟨σ14, h13, hf⟩ := cB_some hf
  refine a_v (k_V (As := [.int (1 : Int32)]) (rest := []) cls12 lb_X12_fail lv_X12_fail q_1266 (C_X12_fail G.2.2.1 a0 (1 : Int32) σ h13 ok_a0) ⟨(Nat.le_of_ble_eq_true rfl), (Nat.le_of_ble_eq_true rfl)⟩ G w k_a0.1 k_a0.2 rfl rfl hl.1 (Nat.le_of_ble_eq_true rfl) (dcs_get dec_X12_unit_1 35 rfl) ⟨Nat.le_refl _, Nat.le_refl _⟩) G w (fun H locs w => ?_)
  exact B_X12_unit_152  σ14 G hm  hf  w (lv_sub hl [] rfl)
set_option maxRecDepth 100000 in
set_option maxHeartbeats 4000000 in
theorem B_X12_unit_64 {H : Heap} {locs : List Loc} {ls : Array Slot} {σ0 : hSt} (a0 : Nat) (σ : hSt) (G : Gx p m c cX12_unit 1 s args RX12 D ay NM ad (aN NM ad)) (hm : meth.sig.returnType = none ∧ meth.locks = false) (ok_a0 : okr kM NM 12 a0 = true) (hf : F_X12_unit_64 a0 σ = some σ0)  (w : Wd D ay kM NM ad (aN NM ad) s σ H locs) (hl : lv_has ls 1 [(0, .ref (ad a0))]) : W p l e (rmK 2 41) s m args below meth c H locs 0 0 (MQ below (cV D ay kM NM ad σ0) args s 0 0 (aN NM ad)) (F0 m 64 ls []) := by
  have k_a0 := okr_in ok_a0
  unfold F_X12_unit_64 at hf
  refine lv_aload_n G.hx G.hb (dcs_get dec_X12_unit_0 32 rfl) rfl (lv_at hl 0 rfl) ?_
  refine lv_bipush (v := (24 : Int32)) G.hx G.hb (dcs_get dec_X12_unit_0 33 rfl) (by decide) ?_
  obtain ⟨v16, h15, hf⟩ := cB_some hf
  refine a_i (k_V (As := [.int (24 : Int32)]) (rest := []) cls12 lb_X12_is lv_X12_is q_1254 (C_X12_is G.2.2.1 a0 (24 : Int32) σ h15 ok_a0) ⟨(Nat.le_of_ble_eq_true rfl), (Nat.le_of_ble_eq_true rfl)⟩ G w k_a0.1 k_a0.2 rfl rfl hl.1 (Nat.le_of_ble_eq_true rfl) (dcs_get dec_X12_unit_0 34 rfl) ⟨Nat.le_refl _, Nat.le_refl _⟩) G w (fun H locs w => ?_)
  refine lv_if_ne (tgt := 82) G.hx G.hb (dcs_get dec_X12_unit_0 35 rfl) (by decide) (fun hc => ?_) (fun hc => ?_)
  · rw [if_neg hc] at hf
    exact B_X12_unit_82 a0 σ G hm ok_a0 hf  w (lv_sub hl [0] rfl)
  · rw [if_pos hc] at hf
    refine lv_aload_n G.hx G.hb (dcs_get dec_X12_unit_0 36 rfl) rfl (lv_at hl 0 rfl) ?_
    refine lv_bipush (v := (25 : Int32)) G.hx G.hb (dcs_get dec_X12_unit_0 37 rfl) (by decide) ?_
    obtain ⟨v18, h17, hf⟩ := cB_some hf
    refine a_i (k_V (As := [.int (25 : Int32)]) (rest := []) cls12 lb_X12_is lv_X12_is q_1254 (C_X12_is G.2.2.1 a0 (25 : Int32) σ h17 ok_a0) ⟨(Nat.le_of_ble_eq_true rfl), (Nat.le_of_ble_eq_true rfl)⟩ G w k_a0.1 k_a0.2 rfl rfl hl.1 (Nat.le_of_ble_eq_true rfl) (dcs_get dec_X12_unit_0 38 rfl) ⟨Nat.le_refl _, Nat.le_refl _⟩) G w (fun H locs w => ?_)
    refine lv_if_eq (tgt := 147) G.hx G.hb (dcs_get dec_X12_unit_0 39 rfl) (by decide) (fun hc => ?_) (fun hc => ?_)
    · rw [if_pos hc] at hf
      exact B_X12_unit_147 a0 σ G hm ok_a0 hf  w (lv_sub hl [0] rfl)
    · rw [if_neg hc] at hf
      exact B_X12_unit_82 a0 σ G hm ok_a0 hf  w (lv_sub hl [0] rfl)
set_option maxRecDepth 100000 in
set_option maxHeartbeats 4000000 in
theorem B_X12_unit_0 {H : Heap} {locs : List Loc} {ls : Array Slot} {σ0 : hSt} (a0 : Nat) (σ : hSt) (G : Gx p m c cX12_unit 1 s args RX12 D ay NM ad (aN NM ad)) (hm : meth.sig.returnType = none ∧ meth.locks = false) (ok_a0 : okr kM NM 12 a0 = true) (hf : F_X12_unit a0 σ = some σ0)  (w : Wd D ay kM NM ad (aN NM ad) s σ H locs) (hl : lv_has ls 1 [(0, .ref (ad a0))]) : W p l e (rmK 2 41) s m args below meth c H locs 0 0 (MQ below (cV D ay kM NM ad σ0) args s 0 0 (aN NM ad)) (F0 m 0 ls []) := by
  have k_a0 := okr_in ok_a0
  unfold F_X12_unit at hf
  refine lv_aload_n G.hx G.hb (dcs_get dec_X12_unit_0 0 rfl) rfl (lv_at hl 0 rfl) ?_
  refine lv_iconst (v := (2 : Int32)) G.hx G.hb (dcs_get dec_X12_unit_0 1 rfl) (by decide) ?_
  obtain ⟨v20, h19, hf⟩ := cB_some hf
  refine a_i (k_V (As := [.int (2 : Int32)]) (rest := []) cls12 lb_X12_is lv_X12_is q_1254 (C_X12_is G.2.2.1 a0 (2 : Int32) σ h19 ok_a0) ⟨(Nat.le_of_ble_eq_true rfl), (Nat.le_of_ble_eq_true rfl)⟩ G w k_a0.1 k_a0.2 rfl rfl hl.1 (Nat.le_of_ble_eq_true rfl) (dcs_get dec_X12_unit_0 2 rfl) ⟨Nat.le_refl _, Nat.le_refl _⟩) G w (fun H locs w => ?_)
  refine lv_if_eq (tgt := 29) G.hx G.hb (dcs_get dec_X12_unit_0 3 rfl) (by decide) (fun hc => ?_) (fun hc => ?_)
  · rw [if_pos hc] at hf
    refine lv_aload_n G.hx G.hb (dcs_get dec_X12_unit_0 15 rfl) rfl (lv_at hl 0 rfl) ?_
    refine r_geti (k := 13) cls12 fi_12_13.1 fi_12_13.2 q_1021 G w k_a0.1 k_a0.2 (dcs_get dec_X12_unit_0 16 rfl) ?_
    refine lv_if_ne (tgt := 147) G.hx G.hb (dcs_get dec_X12_unit_0 17 rfl) (by decide) (fun hc => ?_) (fun hc => ?_)
    · rw [if_neg hc] at hf
      exact B_X12_unit_147 a0 σ G hm ok_a0 hf  w (lv_sub hl [0] rfl)
    · rw [if_pos hc] at hf
      refine lv_aload_n G.hx G.hb (dcs_get dec_X12_unit_0 18 rfl) rfl (lv_at hl 0 rfl) ?_
      obtain ⟨z21, e_z21, ok_z21, hf⟩ := cR_some hf
      have k_z21 := okr_in ok_z21
      refine r_getr (k := 5) cls12 fi_12_5.1 fi_12_5.2 q_1013 G w k_a0.1 k_a0.2 e_z21 (dcs_get dec_X12_unit_0 19 rfl) ?_
      refine lv_aload_n G.hx G.hb (dcs_get dec_X12_unit_0 20 rfl) rfl (lv_at hl 0 rfl) ?_
      refine r_geti (k := 11) cls12 fi_12_11.1 fi_12_11.2 q_1019 G w k_a0.1 k_a0.2 (dcs_get dec_X12_unit_0 21 rfl) ?_
      obtain ⟨h22, hf⟩ := cG_some hf
      refine r_iald G w k_z21.1 k_z21.2 h22 (dcs_get dec_X12_unit_0 22 rfl) ?_
      refine lv_bipush (v := (35 : Int32)) G.hx G.hb (dcs_get dec_X12_unit_0 23 rfl) (by decide) ?_
      refine lv_icmp_lt (tgt := 64) G.hx G.hb (dcs_get dec_X12_unit_0 24 rfl) (by decide) (fun hc => ?_) (fun hc => ?_)
      · rw [if_pos hc] at hf
        exact B_X12_unit_64 a0 σ G hm ok_a0 hf  w (lv_sub hl [0] rfl)
      · rw [if_neg hc] at hf
        refine lv_aload_n G.hx G.hb (dcs_get dec_X12_unit_0 25 rfl) rfl (lv_at hl 0 rfl) ?_
        obtain ⟨z23, e_z23, ok_z23, hf⟩ := cR_some hf
        have k_z23 := okr_in ok_z23
        refine r_getr (k := 5) cls12 fi_12_5.1 fi_12_5.2 q_1013 G w k_a0.1 k_a0.2 e_z23 (dcs_get dec_X12_unit_0 26 rfl) ?_
        refine lv_aload_n G.hx G.hb (dcs_get dec_X12_unit_0 27 rfl) rfl (lv_at hl 0 rfl) ?_
        refine r_geti (k := 11) cls12 fi_12_11.1 fi_12_11.2 q_1019 G w k_a0.1 k_a0.2 (dcs_get dec_X12_unit_0 28 rfl) ?_
        obtain ⟨h24, hf⟩ := cG_some hf
        refine r_iald G w k_z23.1 k_z23.2 h24 (dcs_get dec_X12_unit_0 29 rfl) ?_
        refine lv_bipush (v := (38 : Int32)) G.hx G.hb (dcs_get dec_X12_unit_0 30 rfl) (by decide) ?_
        refine lv_icmp_le (tgt := 82) G.hx G.hb (dcs_get dec_X12_unit_0 31 rfl) (by decide) (fun hc => ?_) (fun hc => ?_)
        · rw [if_pos hc] at hf
          exact B_X12_unit_82 a0 σ G hm ok_a0 hf  w (lv_sub hl [0] rfl)
        · rw [if_neg hc] at hf
          exact B_X12_unit_64 a0 σ G hm ok_a0 hf  w (lv_sub hl [0] rfl)
  · rw [if_neg hc] at hf
    refine lv_aload_n G.hx G.hb (dcs_get dec_X12_unit_0 4 rfl) rfl (lv_at hl 0 rfl) ?_
    refine lv_iconst (v := (0 : Int32)) G.hx G.hb (dcs_get dec_X12_unit_0 5 rfl) (by decide) ?_
    refine lv_aload_n G.hx G.hb (dcs_get dec_X12_unit_0 6 rfl) rfl (lv_at hl 0 rfl) ?_
    obtain ⟨z25, e_z25, ok_z25, hf⟩ := cR_some hf
    have k_z25 := okr_in ok_z25
    refine r_getr (k := 7) cls12 fi_12_7.1 fi_12_7.2 q_1015 G w k_a0.1 k_a0.2 e_z25 (dcs_get dec_X12_unit_0 7 rfl) ?_
    refine lv_aload_n G.hx G.hb (dcs_get dec_X12_unit_0 8 rfl) rfl (lv_at hl 0 rfl) ?_
    refine r_geti (k := 11) cls12 fi_12_11.1 fi_12_11.2 q_1019 G w k_a0.1 k_a0.2 (dcs_get dec_X12_unit_0 9 rfl) ?_
    obtain ⟨h26, hf⟩ := cG_some hf
    refine r_iald G w k_z25.1 k_z25.2 h26 (dcs_get dec_X12_unit_0 10 rfl) ?_
    obtain ⟨σ28, h27, hf⟩ := cB_some hf
    refine a_v (k_V (As := [.int (0 : Int32), .int (σ.1 z25 (σ.1 a0 11).toNatClampNeg)]) (rest := []) cls12 lb_X12_emit lv_X12_emit q_1318 (C_X12_emit G.2.2.1 a0 (0 : Int32) (σ.1 z25 (σ.1 a0 11).toNatClampNeg) σ h27 ok_a0) ⟨(Nat.le_of_ble_eq_true rfl), (Nat.le_of_ble_eq_true rfl)⟩ G w k_a0.1 k_a0.2 rfl rfl hl.1 (Nat.le_of_ble_eq_true rfl) (dcs_get dec_X12_unit_0 11 rfl) ⟨Nat.le_refl _, Nat.le_refl _⟩) G w (fun H locs w => ?_)
    refine lv_aload_n G.hx G.hb (dcs_get dec_X12_unit_0 12 rfl) rfl (lv_at hl 0 rfl) ?_
    obtain ⟨σ30, h29, hf⟩ := cB_some hf
    refine a_v (k_V (As := []) (rest := []) cls12 lb_X12_goesOn lv_X12_goesOn q_1270 (C_X12_goesOn G.2.2.1 a0 σ28 h29 ok_a0) ⟨(Nat.le_of_ble_eq_true rfl), (Nat.le_of_ble_eq_true rfl)⟩ G w k_a0.1 k_a0.2 rfl rfl hl.1 (Nat.le_of_ble_eq_true rfl) (dcs_get dec_X12_unit_0 13 rfl) ⟨Nat.le_refl _, Nat.le_refl _⟩) G w (fun H locs w => ?_)
    refine lv_goto (tgt := 152) G.hx G.hb (dcs_get dec_X12_unit_0 14 rfl) (by decide) ?_
    exact B_X12_unit_152  σ30 G hm  hf  w (lv_sub hl [] rfl)
end
set_option maxRecDepth 100000 in
set_option maxHeartbeats 4000000 in
theorem C_X12_unit {l : Launch} {D : va_G} {ay : Nat → ClassId} {ad : Nat → Nat} (hi : hInj NM ad) (a0 : Nat) (σ : hSt) {σ0 : hSt} (hf : F_X12_unit a0 σ = some σ0) (ok_a0 : okr kM NM 12 a0 = true) : hM l D ay kM NM ad yX12_unit cX12_unit 1 (none) (rmK 2 41) [.ref (ad a0)] σ (cV D ay kM NM ad σ0) := by
  refine hM_in (by decide) hi (Nat.le_of_ble_eq_true rfl) ?_
  intro p e s m below meth c G hm w ls hl
  exact B_X12_unit_0 a0 σ G hm ok_a0 hf w (lv_sub hl [0] rfl)

/-! HillDrumsModel.comesOut(Z)V -/
def DL_X12_comesOut_0 : List (Nat × Instr × Nat) := [(0, .aload_n 0, 1), (1, .getfield 306, 3), (4, .ifCond .le 87, 3), (7, .aload_n 0, 1), (8, .getfield 113, 3), (11, .aload_n 0, 1), (12, .getfield 306, 3), (15, .iconst 1, 1), (16, .isub, 1), (17, .iaload, 1), (18, .istore_n 2, 1), (19, .iload_n 2, 1), (20, .bipush 6, 2), (22, .if_icmp .eq 19, 3), (25, .iload_n 1, 1), (26, .ifCond .eq 16, 3), (29, .iload_n 2, 1), (30, .bipush 8, 2), (32, .if_icmp .eq 9, 3), (35, .iload_n 2, 1), (36, .bipush 9, 2), (38, .if_icmp .ne 4, 3), (41, .return_, 1), (42, .aload_n 0, 1), (43, .dup, 1), (44, .getfield 306, 3), (47, .iconst 1, 1), (48, .isub, 1), (49, .putfield 306, 3), (52, .aload_n 0, 1), (53, .iload_n 2, 1), (54, .bipush 8, 2), (56, .if_icmp .ne 7, 3), (59, .iconst 2, 1), (60, .goto 24, 3), (63, .iload_n 2, 1), (64, .bipush 9, 2), (66, .if_icmp .ne 7, 3), (69, .iconst 3, 1), (70, .goto 14, 3)]
set_option maxRecDepth 100000 in
theorem dec_X12_comesOut_0 : dcs cX12_comesOut DL_X12_comesOut_0 = true := by decide +kernel
def DL_X12_comesOut_1 : List (Nat × Instr × Nat) := [(73, .iload_n 2, 1), (74, .bipush 10, 2), (76, .if_icmp .ne 7, 3), (79, .iconst 4, 1), (80, .goto 4, 3), (83, .iconst 5, 1), (84, .iconst 0, 1), (85, .invokevirtual 309, 3), (88, .goto (-88), 3), (91, .return_, 1)]
set_option maxRecDepth 100000 in
theorem dec_X12_comesOut_1 : dcs cX12_comesOut DL_X12_comesOut_1 = true := by decide +kernel
theorem lb_X12_comesOut : lkB yX12_comesOut cX12_comesOut 3 (none) 1 := ⟨q_1325, q_14, ⟨by decide, by decide⟩, by decide +kernel⟩
theorem lv_X12_comesOut : lkV yX12_comesOut := ⟨q_1324, qs_89⟩
def F_X12_comesOut_41  (σ : hSt) : Option (hSt) :=
some (σ)
def F_X12_comesOut_84 (a0 : Nat) (l1 : Int32) (s0 : Nat) (s1 : Int32) (σ : hSt) : Option ((hSt) ⊕ (hSt)) :=
(F_X12_emit s0 s1 (0 : Int32) σ).bind fun σ2 =>
some (.inl (σ2))
def F_X12_comesOut_42 (a0 : Nat) (l1 : Int32) (l2 : Int32) (σ : hSt) : Option ((hSt) ⊕ (hSt)) :=
cL (uI σ a0 48 ((σ.1 a0 48) - (1 : Int32))) fun σ3 =>
if l2 = (8 : Int32) then (
F_X12_comesOut_84 a0 l1 a0 (2 : Int32) σ3) else (
if l2 = (9 : Int32) then (
F_X12_comesOut_84 a0 l1 a0 (3 : Int32) σ3) else (
if l2 = (10 : Int32) then (
F_X12_comesOut_84 a0 l1 a0 (4 : Int32) σ3) else (
F_X12_comesOut_84 a0 l1 a0 (5 : Int32) σ3)))
def F_X12_comesOut_0b (a0 : Nat) (l1 : Int32) (σ : hSt) : Option ((hSt) ⊕ (hSt)) :=
if (σ.1 a0 48) ≤ 0 then (
some (.inr (σ))) else (
cR (σ.2.2 a0 47) (okr kM NM 101) fun z4 =>
cG (inb ((σ.1 a0 48) - (1 : Int32)) (kM z4).2) <|
cL (σ.1 z4 ((σ.1 a0 48) - (1 : Int32)).toNatClampNeg) fun v6 =>
if v6 = (6 : Int32) then (
(F_X12_comesOut_41  σ).map (fun x => .inr (x))) else (
if l1 = 0 then (
F_X12_comesOut_42 a0 l1 v6 σ) else (
if v6 = (8 : Int32) then (
(F_X12_comesOut_41  σ).map (fun x => .inr (x))) else (
if v6 = (9 : Int32) then (
(F_X12_comesOut_41  σ).map (fun x => .inr (x))) else (
F_X12_comesOut_42 a0 l1 v6 σ)))))
def S_X12_comesOut_0 (a0 : Nat) (l1 : Int32) (v : hSt) : Option ((hSt) ⊕ (hSt)) := F_X12_comesOut_0b a0 l1 v
def F_X12_comesOut (a0 : Nat) (l1 : Int32) (σ : hSt) : Option (hSt) := lp (S_X12_comesOut_0 a0 l1) fuel (σ)
section
variable {p : Program} {l : Launch} {e : Env} {s : State} {m : MethodId} {args : Array Value} {below : List Frame} {meth : Method} {c : Code} {D : va_G} {ay : Nat → ClassId} {ad : Nat → Nat}
set_option maxRecDepth 100000 in
set_option maxHeartbeats 4000000 in
theorem B_X12_comesOut_41 {H : Heap} {locs : List Loc} {ls : Array Slot} {σ0 : hSt}  (σ : hSt) (G : Gx p m c cX12_comesOut 3 s args RX12 D ay NM ad (aN NM ad)) (hm : meth.sig.returnType = none ∧ meth.locks = false)  (hf : F_X12_comesOut_41  σ = some σ0)  (w : Wd D ay kM NM ad (aN NM ad) s σ H locs) (hl : lv_has ls 3 []) : W p l e (rmK 1 22) s m args below meth c H locs 0 0 (MQ below (cV D ay kM NM ad σ0) args s 0 0 (aN NM ad)) (F0 m 41 ls []) := by
  unfold F_X12_comesOut_41 at hf
  have e9 := Option.some.inj hf
  exact r_vret G w hm e9 (dcs_get dec_X12_comesOut_0 22 rfl)
set_option maxRecDepth 100000 in
set_option maxHeartbeats 4000000 in
theorem B_X12_comesOut_84 {H : Heap} {locs : List Loc} {ls : Array Slot} {σ0 : hSt} {o : (hSt) ⊕ (hSt)} (a0 : Nat) (l1 : Int32) (s0 : Nat) (s1 : Int32) (σ : hSt) (G : Gx p m c cX12_comesOut 3 s args RX12 D ay NM ad (aN NM ad)) (hm : meth.sig.returnType = none ∧ meth.locks = false) (ok_a0 : okr kM NM 12 a0 = true) (ok_s0 : okr kM NM 12 s0 = true) (hf : F_X12_comesOut_84 a0 l1 s0 s1 σ = some o) (hb0 : ∀ (v : hSt), o = .inl v → ∀ (H : Heap) (locs : List Loc) (ls : Array Slot), Wd D ay kM NM ad (aN NM ad) s v H locs → lv_has ls 3 [(0, .ref (ad a0)), (1, .int l1)] → W p l e (rmK 1 22) s m args below meth c H locs 0 0 (MQ below (cV D ay kM NM ad σ0) args s 0 0 (aN NM ad)) (F0 m 0 ls [])) (hr : ∀ x, o = .inr (x) → x = σ0) (w : Wd D ay kM NM ad (aN NM ad) s σ H locs) (hl : lv_has ls 3 [(0, .ref (ad a0)), (1, .int l1)]) : W p l e (rmK 1 22) s m args below meth c H locs 0 0 (MQ below (cV D ay kM NM ad σ0) args s 0 0 (aN NM ad)) (F0 m 84 ls [.int s1, .ref (ad s0)]) := by
  have k_a0 := okr_in ok_a0
  have k_s0 := okr_in ok_s0
  unfold F_X12_comesOut_84 at hf
  refine lv_iconst (v := (0 : Int32)) G.hx G.hb (dcs_get dec_X12_comesOut_1 6 rfl) (by decide) ?_
  obtain ⟨σ2, h1, hf⟩ := cB_some hf
  refine a_v (k_V (As := [.int s1, .int (0 : Int32)]) (rest := []) cls12 lb_X12_emit lv_X12_emit q_1318 (C_X12_emit G.2.2.1 s0 s1 (0 : Int32) σ h1 ok_s0) ⟨(Nat.le_of_ble_eq_true rfl), (Nat.le_of_ble_eq_true rfl)⟩ G w k_s0.1 k_s0.2 rfl rfl hl.1 (Nat.le_of_ble_eq_true rfl) (dcs_get dec_X12_comesOut_1 7 rfl) ⟨Nat.le_refl _, Nat.le_refl _⟩) G w (fun H locs w => ?_)
  refine lv_goto (tgt := 0) G.hx G.hb (dcs_get dec_X12_comesOut_1 8 rfl) (by decide) ?_
  exact hb0 _ (Option.some.inj hf).symm _ _ _ w (lv_sub hl [0, 1] rfl)
set_option maxRecDepth 100000 in
set_option maxHeartbeats 4000000 in
theorem B_X12_comesOut_42 {H : Heap} {locs : List Loc} {ls : Array Slot} {σ0 : hSt} {o : (hSt) ⊕ (hSt)} (a0 : Nat) (l1 : Int32) (l2 : Int32) (σ : hSt) (G : Gx p m c cX12_comesOut 3 s args RX12 D ay NM ad (aN NM ad)) (hm : meth.sig.returnType = none ∧ meth.locks = false) (ok_a0 : okr kM NM 12 a0 = true) (hf : F_X12_comesOut_42 a0 l1 l2 σ = some o) (hb0 : ∀ (v : hSt), o = .inl v → ∀ (H : Heap) (locs : List Loc) (ls : Array Slot), Wd D ay kM NM ad (aN NM ad) s v H locs → lv_has ls 3 [(0, .ref (ad a0)), (1, .int l1)] → W p l e (rmK 1 22) s m args below meth c H locs 0 0 (MQ below (cV D ay kM NM ad σ0) args s 0 0 (aN NM ad)) (F0 m 0 ls [])) (hr : ∀ x, o = .inr (x) → x = σ0) (w : Wd D ay kM NM ad (aN NM ad) s σ H locs) (hl : lv_has ls 3 [(0, .ref (ad a0)), (1, .int l1), (2, .int l2)]) : W p l e (rmK 1 22) s m args below meth c H locs 0 0 (MQ below (cV D ay kM NM ad σ0) args s 0 0 (aN NM ad)) (F0 m 42 ls []) := by
  have k_a0 := okr_in ok_a0
  unfold F_X12_comesOut_42 at hf
  refine lv_aload_n G.hx G.hb (dcs_get dec_X12_comesOut_0 23 rfl) rfl (lv_at hl 0 rfl) ?_
  refine lv_dup G.hx G.hb (dcs_get dec_X12_comesOut_0 24 rfl) rfl ?_
  refine r_geti (k := 48) cls12 fi_12_48.1 fi_12_48.2 q_1056 G w k_a0.1 k_a0.2 (dcs_get dec_X12_comesOut_0 25 rfl) ?_
  refine lv_iconst (v := (1 : Int32)) G.hx G.hb (dcs_get dec_X12_comesOut_0 26 rfl) (by decide) ?_
  refine lv_isub G.hx G.hb (dcs_get dec_X12_comesOut_0 27 rfl) ?_
  obtain ⟨σ3, e_σ3, hf⟩ := cL_some hf
  refine r_puti (k := 48) cls12 ct12 fi_12_48.1 fi_12_48.2 fp_12_48.1 fp_12_48.2 q_1056 rfl rfl G w k_a0.1 k_a0.2 (dcs_get dec_X12_comesOut_0 28 rfl) (fun H locs w => ?_)
  have w := Wd.nm e_σ3 w
  refine lv_aload_n G.hx G.hb (dcs_get dec_X12_comesOut_0 29 rfl) rfl (lv_at hl 0 rfl) ?_
  refine lv_iload_n G.hx G.hb (dcs_get dec_X12_comesOut_0 30 rfl) rfl (lv_at hl 2 rfl) ?_
  refine lv_bipush (v := (8 : Int32)) G.hx G.hb (dcs_get dec_X12_comesOut_0 31 rfl) (by decide) ?_
  refine lv_icmp_ne (tgt := 63) G.hx G.hb (dcs_get dec_X12_comesOut_0 32 rfl) (by decide) (fun hc => ?_) (fun hc => ?_)
  · rw [if_neg hc] at hf
    refine lv_iload_n G.hx G.hb (dcs_get dec_X12_comesOut_0 35 rfl) rfl (lv_at hl 2 rfl) ?_
    refine lv_bipush (v := (9 : Int32)) G.hx G.hb (dcs_get dec_X12_comesOut_0 36 rfl) (by decide) ?_
    refine lv_icmp_ne (tgt := 73) G.hx G.hb (dcs_get dec_X12_comesOut_0 37 rfl) (by decide) (fun hc => ?_) (fun hc => ?_)
    · rw [if_neg hc] at hf
      refine lv_iload_n G.hx G.hb (dcs_get dec_X12_comesOut_1 0 rfl) rfl (lv_at hl 2 rfl) ?_
      refine lv_bipush (v := (10 : Int32)) G.hx G.hb (dcs_get dec_X12_comesOut_1 1 rfl) (by decide) ?_
      refine lv_icmp_ne (tgt := 83) G.hx G.hb (dcs_get dec_X12_comesOut_1 2 rfl) (by decide) (fun hc => ?_) (fun hc => ?_)
      · rw [if_neg hc] at hf
        refine lv_iconst (v := (5 : Int32)) G.hx G.hb (dcs_get dec_X12_comesOut_1 5 rfl) (by decide) ?_
        exact B_X12_comesOut_84 a0 l1 a0 (5 : Int32) σ3 G hm ok_a0 ok_a0 hf hb0 hr w (lv_sub hl [0, 1] rfl)
      · rw [if_pos hc] at hf
        refine lv_iconst (v := (4 : Int32)) G.hx G.hb (dcs_get dec_X12_comesOut_1 3 rfl) (by decide) ?_
        refine lv_goto (tgt := 84) G.hx G.hb (dcs_get dec_X12_comesOut_1 4 rfl) (by decide) ?_
        exact B_X12_comesOut_84 a0 l1 a0 (4 : Int32) σ3 G hm ok_a0 ok_a0 hf hb0 hr w (lv_sub hl [0, 1] rfl)
    · rw [if_pos hc] at hf
      refine lv_iconst (v := (3 : Int32)) G.hx G.hb (dcs_get dec_X12_comesOut_0 38 rfl) (by decide) ?_
      refine lv_goto (tgt := 84) G.hx G.hb (dcs_get dec_X12_comesOut_0 39 rfl) (by decide) ?_
      exact B_X12_comesOut_84 a0 l1 a0 (3 : Int32) σ3 G hm ok_a0 ok_a0 hf hb0 hr w (lv_sub hl [0, 1] rfl)
  · rw [if_pos hc] at hf
    refine lv_iconst (v := (2 : Int32)) G.hx G.hb (dcs_get dec_X12_comesOut_0 33 rfl) (by decide) ?_
    refine lv_goto (tgt := 84) G.hx G.hb (dcs_get dec_X12_comesOut_0 34 rfl) (by decide) ?_
    exact B_X12_comesOut_84 a0 l1 a0 (2 : Int32) σ3 G hm ok_a0 ok_a0 hf hb0 hr w (lv_sub hl [0, 1] rfl)
set_option maxRecDepth 100000 in
set_option maxHeartbeats 4000000 in
theorem B_X12_comesOut_0b {H : Heap} {locs : List Loc} {ls : Array Slot} {σ0 : hSt} {o : (hSt) ⊕ (hSt)} (a0 : Nat) (l1 : Int32) (σ : hSt) (G : Gx p m c cX12_comesOut 3 s args RX12 D ay NM ad (aN NM ad)) (hm : meth.sig.returnType = none ∧ meth.locks = false) (ok_a0 : okr kM NM 12 a0 = true) (hf : F_X12_comesOut_0b a0 l1 σ = some o) (hb0 : ∀ (v : hSt), o = .inl v → ∀ (H : Heap) (locs : List Loc) (ls : Array Slot), Wd D ay kM NM ad (aN NM ad) s v H locs → lv_has ls 3 [(0, .ref (ad a0)), (1, .int l1)] → W p l e (rmK 1 22) s m args below meth c H locs 0 0 (MQ below (cV D ay kM NM ad σ0) args s 0 0 (aN NM ad)) (F0 m 0 ls [])) (hr : ∀ x, o = .inr (x) → x = σ0) (w : Wd D ay kM NM ad (aN NM ad) s σ H locs) (hl : lv_has ls 3 [(0, .ref (ad a0)), (1, .int l1)]) : W p l e (rmK 1 22) s m args below meth c H locs 0 0 (MQ below (cV D ay kM NM ad σ0) args s 0 0 (aN NM ad)) (F0 m 0 ls []) := by
  have k_a0 := okr_in ok_a0
  unfold F_X12_comesOut_0b at hf
  refine lv_aload_n G.hx G.hb (dcs_get dec_X12_comesOut_0 0 rfl) rfl (lv_at hl 0 rfl) ?_
  refine r_geti (k := 48) cls12 fi_12_48.1 fi_12_48.2 q_1056 G w k_a0.1 k_a0.2 (dcs_get dec_X12_comesOut_0 1 rfl) ?_
  refine lv_if_le (tgt := 91) G.hx G.hb (dcs_get dec_X12_comesOut_0 2 rfl) (by decide) (fun hc => ?_) (fun hc => ?_)
  · rw [if_pos hc] at hf
    have e9 := hr _ (Option.some.inj hf).symm
    exact r_vret G w hm e9 (dcs_get dec_X12_comesOut_1 9 rfl)
  · rw [if_neg hc] at hf
    refine lv_aload_n G.hx G.hb (dcs_get dec_X12_comesOut_0 3 rfl) rfl (lv_at hl 0 rfl) ?_
    obtain ⟨z4, e_z4, ok_z4, hf⟩ := cR_some hf
    have k_z4 := okr_in ok_z4
    refine r_getr (k := 47) cls12 fi_12_47.1 fi_12_47.2 q_1055 G w k_a0.1 k_a0.2 e_z4 (dcs_get dec_X12_comesOut_0 4 rfl) ?_
    refine lv_aload_n G.hx G.hb (dcs_get dec_X12_comesOut_0 5 rfl) rfl (lv_at hl 0 rfl) ?_
    refine r_geti (k := 48) cls12 fi_12_48.1 fi_12_48.2 q_1056 G w k_a0.1 k_a0.2 (dcs_get dec_X12_comesOut_0 6 rfl) ?_
    refine lv_iconst (v := (1 : Int32)) G.hx G.hb (dcs_get dec_X12_comesOut_0 7 rfl) (by decide) ?_
    refine lv_isub G.hx G.hb (dcs_get dec_X12_comesOut_0 8 rfl) ?_
    obtain ⟨h5, hf⟩ := cG_some hf
    refine r_iald G w k_z4.1 k_z4.2 h5 (dcs_get dec_X12_comesOut_0 9 rfl) ?_
    obtain ⟨v6, e_v6, hf⟩ := cL_some hf
    refine r_topi e_v6 ?_
    refine lv_istore_n (lv' := [(2, .int v6), (0, .ref (ad a0)), (1, .int l1)]) G.hx G.hb (dcs_get dec_X12_comesOut_0 10 rfl) rfl hl (by decide) rfl (fun ls hl => ?_)
    refine lv_iload_n G.hx G.hb (dcs_get dec_X12_comesOut_0 11 rfl) rfl (lv_at hl 0 rfl) ?_
    refine lv_bipush (v := (6 : Int32)) G.hx G.hb (dcs_get dec_X12_comesOut_0 12 rfl) (by decide) ?_
    refine lv_icmp_eq (tgt := 41) G.hx G.hb (dcs_get dec_X12_comesOut_0 13 rfl) (by decide) (fun hc => ?_) (fun hc => ?_)
    · rw [if_pos hc] at hf
      obtain ⟨x9, h9, e9⟩ := map_some_inv hf
      subst e9
      have e8 := hr _ rfl
      rw [e8] at h9
      exact B_X12_comesOut_41  σ G hm  h9 w (lv_sub hl [] rfl)
    · rw [if_neg hc] at hf
      refine lv_iload_n G.hx G.hb (dcs_get dec_X12_comesOut_0 14 rfl) rfl (lv_at hl 2 rfl) ?_
      refine lv_if_eq (tgt := 42) G.hx G.hb (dcs_get dec_X12_comesOut_0 15 rfl) (by decide) (fun hc => ?_) (fun hc => ?_)
      · rw [if_pos hc] at hf
        exact B_X12_comesOut_42 a0 l1 v6 σ G hm ok_a0 hf hb0 hr w (lv_sub hl [1, 2, 0] rfl)
      · rw [if_neg hc] at hf
        refine lv_iload_n G.hx G.hb (dcs_get dec_X12_comesOut_0 16 rfl) rfl (lv_at hl 0 rfl) ?_
        refine lv_bipush (v := (8 : Int32)) G.hx G.hb (dcs_get dec_X12_comesOut_0 17 rfl) (by decide) ?_
        refine lv_icmp_eq (tgt := 41) G.hx G.hb (dcs_get dec_X12_comesOut_0 18 rfl) (by decide) (fun hc => ?_) (fun hc => ?_)
        · rw [if_pos hc] at hf
          obtain ⟨x9, h9, e9⟩ := map_some_inv hf
          subst e9
          have e8 := hr _ rfl
          rw [e8] at h9
          exact B_X12_comesOut_41  σ G hm  h9 w (lv_sub hl [] rfl)
        · rw [if_neg hc] at hf
          refine lv_iload_n G.hx G.hb (dcs_get dec_X12_comesOut_0 19 rfl) rfl (lv_at hl 0 rfl) ?_
          refine lv_bipush (v := (9 : Int32)) G.hx G.hb (dcs_get dec_X12_comesOut_0 20 rfl) (by decide) ?_
          refine lv_icmp_ne (tgt := 42) G.hx G.hb (dcs_get dec_X12_comesOut_0 21 rfl) (by decide) (fun hc => ?_) (fun hc => ?_)
          · rw [if_neg hc] at hf
            exact B_X12_comesOut_42 a0 l1 v6 σ G hm ok_a0 hf hb0 hr w (lv_sub hl [1, 2, 0] rfl)
          · rw [if_pos hc] at hf
            obtain ⟨x9, h9, e9⟩ := map_some_inv hf
            subst e9
            have e8 := hr _ rfl
            rw [e8] at h9
            exact B_X12_comesOut_41  σ G hm  h9 w (lv_sub hl [] rfl)
set_option maxRecDepth 100000 in
set_option maxHeartbeats 4000000 in
theorem H_X12_comesOut_0 {σ0 : hSt} (a0 : Nat) (l1 : Int32) (G : Gx p m c cX12_comesOut 3 s args RX12 D ay NM ad (aN NM ad)) (hm : meth.sig.returnType = none ∧ meth.locks = false) (ok_a0 : okr kM NM 12 a0 = true)  : ∀ (k : Nat) (v : hSt), lp (S_X12_comesOut_0 a0 l1) k v = some σ0 → ∀ (H : Heap) (locs : List Loc) (ls : Array Slot), Wd D ay kM NM ad (aN NM ad) s v H locs → lv_has ls 3 [(0, .ref (ad a0)), (1, .int l1)] → W p l e (rmK 1 22) s m args below meth c H locs 0 0 (MQ below (cV D ay kM NM ad σ0) args s 0 0 (aN NM ad)) (F0 m 0 ls []) := by
  intro k
  induction k with
  | zero => intro v hf; cases hf
  | succ k ih =>
    intro v hf H locs ls w hl
    obtain ⟨o1, h1, h2, h3⟩ := lp_some hf
    exact B_X12_comesOut_0b a0 l1 v G hm ok_a0 h1  (fun v' e => ih v' (h2 v' e)) (fun x e => h3 x e) w hl
set_option maxRecDepth 100000 in
set_option maxHeartbeats 4000000 in
theorem B_X12_comesOut_0 {H : Heap} {locs : List Loc} {ls : Array Slot} {σ0 : hSt} (a0 : Nat) (l1 : Int32) (σ : hSt) (G : Gx p m c cX12_comesOut 3 s args RX12 D ay NM ad (aN NM ad)) (hm : meth.sig.returnType = none ∧ meth.locks = false) (ok_a0 : okr kM NM 12 a0 = true) (hf : F_X12_comesOut a0 l1 σ = some σ0)  (w : Wd D ay kM NM ad (aN NM ad) s σ H locs) (hl : lv_has ls 3 [(0, .ref (ad a0)), (1, .int l1)]) : W p l e (rmK 1 22) s m args below meth c H locs 0 0 (MQ below (cV D ay kM NM ad σ0) args s 0 0 (aN NM ad)) (F0 m 0 ls []) := by
  unfold F_X12_comesOut at hf
  exact H_X12_comesOut_0 a0 l1  G hm ok_a0  fuel (σ) hf _ _ _ w hl
end
set_option maxRecDepth 100000 in
set_option maxHeartbeats 4000000 in
theorem C_X12_comesOut {l : Launch} {D : va_G} {ay : Nat → ClassId} {ad : Nat → Nat} (hi : hInj NM ad) (a0 : Nat) (l1 : Int32) (σ : hSt) {σ0 : hSt} (hf : F_X12_comesOut a0 l1 σ = some σ0) (ok_a0 : okr kM NM 12 a0 = true) : hM l D ay kM NM ad yX12_comesOut cX12_comesOut 3 (none) (rmK 1 22) [.ref (ad a0), .int l1] σ (cV D ay kM NM ad σ0) := by
  refine hM_in (by decide) hi (Nat.le_of_ble_eq_true rfl) ?_
  intro p e s m below meth c G hm w ls hl
  exact B_X12_comesOut_0 a0 l1 σ G hm ok_a0 hf w (lv_sub hl [0, 1] rfl)

/-! HillDrumsModel.expression()V -/
def DL_X12_expression_0 : List (Nat × Instr × Nat) := [(0, .aload_n 0, 1), (1, .iconst 0, 1), (2, .putfield 306, 3), (5, .aload_n 0, 1), (6, .getfield 233, 3), (9, .istore_n 1, 1), (10, .iconst 1, 1), (11, .istore_n 2, 1), (12, .iload_n 2, 1), (13, .ifCond .eq 259, 3), (16, .aload_n 0, 1), (17, .getfield 206, 3), (20, .ifCond .ne 252, 3), (23, .aload_n 0, 1), (24, .bipush 6, 2), (26, .invokevirtual 224, 3), (29, .ifCond .eq 55, 3), (32, .aload_n 0, 1), (33, .getfield 233, 3), (36, .bipush 6, 2), (38, .if_icmp .ne 8, 3), (41, .aload_n 0, 1), (42, .iconst 2, 1), (43, .invokevirtual 221, 3), (46, .aload_n 0, 1), (47, .dup, 1), (48, .getfield 233, 3), (51, .iconst 1, 1), (52, .iadd, 1), (53, .putfield 233, 3), (56, .aload_n 0, 1), (57, .invokevirtual 227, 3), (60, .aload_n 0, 1), (61, .getfield 113, 3), (64, .aload_n 0, 1), (65, .getfield 306, 3), (68, .bipush 6, 2), (70, .iastore, 1), (71, .aload_n 0, 1), (72, .dup, 1)]
set_option maxRecDepth 100000 in
theorem dec_X12_expression_0 : dcs cX12_expression DL_X12_expression_0 = true := by decide +kernel
def DL_X12_expression_1 : List (Nat × Instr × Nat) := [(73, .getfield 306, 3), (76, .iconst 1, 1), (77, .iadd, 1), (78, .putfield 306, 3), (81, .goto (-58), 3), (84, .aload_n 0, 1), (85, .invokevirtual 312, 3), (88, .aload_n 0, 1), (89, .getfield 206, 3), (92, .ifCond .le 4, 3), (95, .return_, 1), (96, .aload_n 0, 1), (97, .bipush 7, 2), (99, .invokevirtual 224, 3), (102, .ifCond .eq 43, 3), (105, .aload_n 0, 1), (106, .getfield 233, 3), (109, .iload_n 1, 1), (110, .if_icmp .le 35, 3), (113, .aload_n 0, 1), (114, .iconst 0, 1), (115, .invokevirtual 315, 3), (118, .aload_n 0, 1), (119, .dup, 1), (120, .getfield 306, 3), (123, .iconst 1, 1), (124, .isub, 1), (125, .putfield 306, 3), (128, .aload_n 0, 1), (129, .dup, 1), (130, .getfield 233, 3), (133, .iconst 1, 1), (134, .isub, 1), (135, .putfield 233, 3), (138, .aload_n 0, 1), (139, .invokevirtual 227, 3), (142, .goto (-46), 3), (145, .aload_n 0, 1), (146, .bipush 8, 2), (148, .invokevirtual 224, 3)]
set_option maxRecDepth 100000 in
theorem dec_X12_expression_1 : dcs cX12_expression DL_X12_expression_1 = true := by decide +kernel
def DL_X12_expression_2 : List (Nat × Instr × Nat) := [(151, .ifCond .ne 30, 3), (154, .aload_n 0, 1), (155, .bipush 9, 2), (157, .invokevirtual 224, 3), (160, .ifCond .ne 21, 3), (163, .aload_n 0, 1), (164, .bipush 10, 2), (166, .invokevirtual 224, 3), (169, .ifCond .ne 12, 3), (172, .aload_n 0, 1), (173, .bipush 15, 2), (175, .invokevirtual 224, 3), (178, .ifCond .eq 7, 3), (181, .iconst 1, 1), (182, .goto 4, 3), (185, .iconst 0, 1), (186, .istore_n 2, 1), (187, .iload_n 2, 1), (188, .ifCond .ne 22, 3), (191, .aload_n 0, 1), (192, .getfield 233, 3), (195, .iload_n 1, 1), (196, .if_icmp .le 8, 3), (199, .aload_n 0, 1), (200, .iconst 1, 1), (201, .invokevirtual 221, 3), (204, .aload_n 0, 1), (205, .iconst 0, 1), (206, .invokevirtual 315, 3), (209, .return_, 1), (210, .aload_n 0, 1), (211, .aload_n 0, 1), (212, .bipush 10, 2), (214, .invokevirtual 224, 3), (217, .ifCond .ne 12, 3), (220, .aload_n 0, 1), (221, .bipush 15, 2), (223, .invokevirtual 224, 3), (226, .ifCond .eq 7, 3), (229, .iconst 1, 1)]
set_option maxRecDepth 100000 in
theorem dec_X12_expression_2 : dcs cX12_expression DL_X12_expression_2 = true := by decide +kernel
def DL_X12_expression_3 : List (Nat × Instr × Nat) := [(230, .goto 4, 3), (233, .iconst 0, 1), (234, .invokevirtual 315, 3), (237, .aload_n 0, 1), (238, .getfield 113, 3), (241, .aload_n 0, 1), (242, .getfield 306, 3), (245, .aload_n 0, 1), (246, .getfield 20, 3), (249, .aload_n 0, 1), (250, .getfield 209, 3), (253, .iaload, 1), (254, .iastore, 1), (255, .aload_n 0, 1), (256, .dup, 1), (257, .getfield 306, 3), (260, .iconst 1, 1), (261, .iadd, 1), (262, .putfield 306, 3), (265, .aload_n 0, 1), (266, .invokevirtual 227, 3), (269, .goto (-257), 3), (272, .return_, 1)]
set_option maxRecDepth 100000 in
theorem dec_X12_expression_3 : dcs cX12_expression DL_X12_expression_3 = true := by decide +kernel
theorem lb_X12_expression : lkB yX12_expression cX12_expression 3 (none) 0 := ⟨q_1313, q_14, ⟨by decide, by decide⟩, by decide +kernel⟩
theorem lv_X12_expression : lkV yX12_expression := ⟨q_1312, qs_86⟩
def F_X12_expression_46 (a0 : Nat) (l1 : Int32) (σ : hSt) : Option ((hSt) ⊕ ((Int32 × hSt) ⊕ (hSt))) :=
cL (uI σ a0 12 ((σ.1 a0 12) + (1 : Int32))) fun σ1 =>
(F_X12_goesOn a0 σ1).bind fun σ3 =>
cR (σ3.2.2 a0 47) (okr kM NM 101) fun z4 =>
cG (inb (σ3.1 a0 48) (kM z4).2) <|
cL (uI σ3 z4 (σ3.1 a0 48).toNatClampNeg (6 : Int32)) fun σ6 =>
cL (uI σ6 a0 48 ((σ6.1 a0 48) + (1 : Int32))) fun σ7 =>
some (.inl (σ7))
def F_X12_expression_204 (a0 : Nat) (σ : hSt) : Option (hSt) :=
(F_X12_comesOut a0 (0 : Int32) σ).bind fun σ9 =>
some (σ9)
def F_X12_expression_234 (a0 : Nat) (l1 : Int32) (l2 : Int32) (s0 : Nat) (s1 : Int32) (σ : hSt) : Option ((Int32 × hSt) ⊕ (hSt)) :=
(F_X12_comesOut s0 s1 σ).bind fun σ11 =>
cR (σ11.2.2 a0 47) (okr kM NM 101) fun z12 =>
cR (σ11.2.2 a0 5) (okr kM NM 101) fun z13 =>
cG (inb (σ11.1 a0 11) (kM z13).2) <|
cG (inb (σ11.1 a0 48) (kM z12).2) <|
cL (uI σ11 z12 (σ11.1 a0 48).toNatClampNeg (σ11.1 z13 (σ11.1 a0 11).toNatClampNeg)) fun σ16 =>
cL (uI σ16 a0 48 ((σ16.1 a0 48) + (1 : Int32))) fun σ17 =>
(F_X12_goesOn a0 σ17).bind fun σ19 =>
some (.inl (l2, σ19))
def F_X12_expression_229 (a0 : Nat) (l1 : Int32) (l2 : Int32) (s0 : Nat) (σ : hSt) : Option ((Int32 × hSt) ⊕ (hSt)) :=
F_X12_expression_234 a0 l1 l2 s0 (1 : Int32) σ
def F_X12_expression_186 (a0 : Nat) (l1 : Int32) (s0 : Int32) (σ : hSt) : Option ((Int32 × hSt) ⊕ (hSt)) :=
if s0 = 0 then (
if (σ.1 a0 12) ≤ l1 then (
(F_X12_expression_204 a0 σ).map (fun x => .inr (x))) else (
(F_X12_fail a0 (1 : Int32) σ).bind fun σ25 =>
(F_X12_expression_204 a0 σ25).map (fun x => .inr (x)))) else (
(F_X12_is a0 (10 : Int32) σ).bind fun v21 =>
if v21 = 0 then (
(F_X12_is a0 (15 : Int32) σ).bind fun v23 =>
if v23 = 0 then (
F_X12_expression_234 a0 l1 s0 a0 (0 : Int32) σ) else (
F_X12_expression_229 a0 l1 s0 a0 σ)) else (
F_X12_expression_229 a0 l1 s0 a0 σ))
def F_X12_expression_181 (a0 : Nat) (l1 : Int32) (σ : hSt) : Option ((Int32 × hSt) ⊕ (hSt)) :=
F_X12_expression_186 a0 l1 (1 : Int32) σ
def F_X12_expression_145 (a0 : Nat) (l1 : Int32) (σ : hSt) : Option ((Int32 × hSt) ⊕ (hSt)) :=
(F_X12_is a0 (8 : Int32) σ).bind fun v27 =>
if v27 = 0 then (
(F_X12_is a0 (9 : Int32) σ).bind fun v29 =>
if v29 = 0 then (
(F_X12_is a0 (10 : Int32) σ).bind fun v31 =>
if v31 = 0 then (
(F_X12_is a0 (15 : Int32) σ).bind fun v33 =>
if v33 = 0 then (
F_X12_expression_186 a0 l1 (0 : Int32) σ) else (
F_X12_expression_181 a0 l1 σ)) else (
F_X12_expression_181 a0 l1 σ)) else (
F_X12_expression_181 a0 l1 σ)) else (
F_X12_expression_181 a0 l1 σ)
def F_X12_expression_96b (a0 : Nat) (l1 : Int32) (σ : hSt) : Option ((hSt) ⊕ ((Int32 × hSt) ⊕ (hSt))) :=
(F_X12_is a0 (7 : Int32) σ).bind fun v35 =>
if v35 = 0 then (
(F_X12_expression_145 a0 l1 σ).map (fun x => .inr (x))) else (
if (σ.1 a0 12) ≤ l1 then (
(F_X12_expression_145 a0 l1 σ).map (fun x => .inr (x))) else (
(F_X12_comesOut a0 (0 : Int32) σ).bind fun σ37 =>
cL (uI σ37 a0 48 ((σ37.1 a0 48) - (1 : Int32))) fun σ38 =>
cL (uI σ38 a0 12 ((σ38.1 a0 12) - (1 : Int32))) fun σ39 =>
(F_X12_goesOn a0 σ39).bind fun σ41 =>
some (.inl (σ41))))
def S_X12_expression_96 (a0 : Nat) (l1 : Int32) (v : hSt) : Option ((hSt) ⊕ ((Int32 × hSt) ⊕ (hSt))) := F_X12_expression_96b a0 l1 v
def F_X12_expression_96 (a0 : Nat) (l1 : Int32) (σ : hSt) : Option ((Int32 × hSt) ⊕ (hSt)) := lp (S_X12_expression_96 a0 l1) fuel (σ)
def F_X12_expression_23b (a0 : Nat) (l1 : Int32) (σ : hSt) : Option ((hSt) ⊕ ((Int32 × hSt) ⊕ (hSt))) :=
(F_X12_is a0 (6 : Int32) σ).bind fun v43 =>
if v43 = 0 then (
(F_X12_unit a0 σ).bind fun σ45 =>
if (σ45.1 a0 13) ≤ 0 then (
(F_X12_expression_96 a0 l1 σ45).map (fun x => .inr (x))) else (
some (.inr (.inr (σ45))))) else (
if (σ.1 a0 12) = (6 : Int32) then (
(F_X12_fail a0 (2 : Int32) σ).bind fun σ47 =>
F_X12_expression_46 a0 l1 σ47) else (
F_X12_expression_46 a0 l1 σ))
def S_X12_expression_23 (a0 : Nat) (l1 : Int32) (v : hSt) : Option ((hSt) ⊕ ((Int32 × hSt) ⊕ (hSt))) := F_X12_expression_23b a0 l1 v
def F_X12_expression_23 (a0 : Nat) (l1 : Int32) (σ : hSt) : Option ((Int32 × hSt) ⊕ (hSt)) := lp (S_X12_expression_23 a0 l1) fuel (σ)
def F_X12_expression_272  (σ : hSt) : Option (hSt) :=
some (σ)
def F_X12_expression_12b (a0 : Nat) (l1 : Int32) (l2 : Int32) (σ : hSt) : Option ((Int32 × hSt) ⊕ (hSt)) :=
if l2 = 0 then (
(F_X12_expression_272  σ).map (fun x => .inr (x))) else (
if (σ.1 a0 13) = 0 then (
F_X12_expression_23 a0 l1 σ) else (
(F_X12_expression_272  σ).map (fun x => .inr (x))))
def S_X12_expression_12 (a0 : Nat) (l1 : Int32) (v : Int32 × hSt) : Option ((Int32 × hSt) ⊕ (hSt)) := F_X12_expression_12b a0 l1 v.1 v.2
def F_X12_expression_12 (a0 : Nat) (l1 : Int32) (l2 : Int32) (σ : hSt) : Option (hSt) := lp (S_X12_expression_12 a0 l1) fuel (l2, σ)
def F_X12_expression (a0 : Nat) (σ : hSt) : Option (hSt) :=
cL (uI σ a0 48 (0 : Int32)) fun σ48 =>
cL (σ48.1 a0 12) fun v49 =>
F_X12_expression_12 a0 v49 (1 : Int32) σ48
section
variable {p : Program} {l : Launch} {e : Env} {s : State} {m : MethodId} {args : Array Value} {below : List Frame} {meth : Method} {c : Code} {D : va_G} {ay : Nat → ClassId} {ad : Nat → Nat}
set_option maxRecDepth 100000 in
set_option maxHeartbeats 4000000 in
theorem B_X12_expression_46 {H : Heap} {locs : List Loc} {ls : Array Slot} {σ0 : hSt} {o : (hSt) ⊕ ((Int32 × hSt) ⊕ (hSt))} (a0 : Nat) (l1 : Int32) (σ : hSt) (G : Gx p m c cX12_expression 3 s args RX12 D ay NM ad (aN NM ad)) (hm : meth.sig.returnType = none ∧ meth.locks = false) (ok_a0 : okr kM NM 12 a0 = true) (hf : F_X12_expression_46 a0 l1 σ = some o) (hb0 : ∀ (v : Int32 × hSt), o = .inr (.inl v) → ∀ (H : Heap) (locs : List Loc) (ls : Array Slot), Wd D ay kM NM ad (aN NM ad) s v.2 H locs → lv_has ls 3 [(0, .ref (ad a0)), (1, .int l1), (2, .int v.1)] → W p l e (rmK 3 61) s m args below meth c H locs 0 0 (MQ below (cV D ay kM NM ad σ0) args s 0 0 (aN NM ad)) (F0 m 12 ls [])) (hb1 : ∀ (v : hSt), o = .inl v → ∀ (H : Heap) (locs : List Loc) (ls : Array Slot), Wd D ay kM NM ad (aN NM ad) s v H locs → lv_has ls 3 [(0, .ref (ad a0)), (1, .int l1)] → W p l e (rmK 3 61) s m args below meth c H locs 0 0 (MQ below (cV D ay kM NM ad σ0) args s 0 0 (aN NM ad)) (F0 m 23 ls [])) (hr : ∀ x, o = .inr (.inr (x)) → x = σ0) (w : Wd D ay kM NM ad (aN NM ad) s σ H locs) (hl : lv_has ls 3 [(0, .ref (ad a0)), (1, .int l1)]) : W p l e (rmK 3 61) s m args below meth c H locs 0 0 (MQ below (cV D ay kM NM ad σ0) args s 0 0 (aN NM ad)) (F0 m 46 ls []) := by
  have k_a0 := okr_in ok_a0
  unfold F_X12_expression_46 at hf
  refine lv_aload_n G.hx G.hb (dcs_get dec_X12_expression_0 24 rfl) rfl (lv_at hl 0 rfl) ?_
  refine lv_dup G.hx G.hb (dcs_get dec_X12_expression_0 25 rfl) rfl ?_
  refine r_geti (k := 12) cls12 fi_12_12.1 fi_12_12.2 q_1020 G w k_a0.1 k_a0.2 (dcs_get dec_X12_expression_0 26 rfl) ?_
  refine lv_iconst (v := (1 : Int32)) G.hx G.hb (dcs_get dec_X12_expression_0 27 rfl) (by decide) ?_
  refine lv_iadd G.hx G.hb (dcs_get dec_X12_expression_0 28 rfl) ?_
  obtain ⟨σ1, e_σ1, hf⟩ := cL_some hf
  refine r_puti (k := 12) cls12 ct12 fi_12_12.1 fi_12_12.2 fp_12_12.1 fp_12_12.2 q_1020 rfl rfl G w k_a0.1 k_a0.2 (dcs_get dec_X12_expression_0 29 rfl) (fun H locs w => ?_)
  have w := Wd.nm e_σ1 w
  refine lv_aload_n G.hx G.hb (dcs_get dec_X12_expression_0 30 rfl) rfl (lv_at hl 0 rfl) ?_
  obtain ⟨σ3, h2, hf⟩ := cB_some hf
  refine a_v (k_V (As := []) (rest := []) cls12 lb_X12_goesOn lv_X12_goesOn q_1270 (C_X12_goesOn G.2.2.1 a0 σ1 h2 ok_a0) ⟨(Nat.le_of_ble_eq_true rfl), (Nat.le_of_ble_eq_true rfl)⟩ G w k_a0.1 k_a0.2 rfl rfl hl.1 (Nat.le_of_ble_eq_true rfl) (dcs_get dec_X12_expression_0 31 rfl) ⟨Nat.le_refl _, Nat.le_refl _⟩) G w (fun H locs w => ?_)
  refine lv_aload_n G.hx G.hb (dcs_get dec_X12_expression_0 32 rfl) rfl (lv_at hl 0 rfl) ?_
  obtain ⟨z4, e_z4, ok_z4, hf⟩ := cR_some hf
  have k_z4 := okr_in ok_z4
  refine r_getr (k := 47) cls12 fi_12_47.1 fi_12_47.2 q_1055 G w k_a0.1 k_a0.2 e_z4 (dcs_get dec_X12_expression_0 33 rfl) ?_
  refine lv_aload_n G.hx G.hb (dcs_get dec_X12_expression_0 34 rfl) rfl (lv_at hl 0 rfl) ?_
  refine r_geti (k := 48) cls12 fi_12_48.1 fi_12_48.2 q_1056 G w k_a0.1 k_a0.2 (dcs_get dec_X12_expression_0 35 rfl) ?_
  refine lv_bipush (v := (6 : Int32)) G.hx G.hb (dcs_get dec_X12_expression_0 36 rfl) (by decide) ?_
  obtain ⟨h5, hf⟩ := cG_some hf
  obtain ⟨σ6, e_σ6, hf⟩ := cL_some hf
  refine r_iast G w k_z4.1 k_z4.2 h5 (dcs_get dec_X12_expression_0 37 rfl) (fun H locs w => ?_)
  have w := Wd.nm e_σ6 w
  refine lv_aload_n G.hx G.hb (dcs_get dec_X12_expression_0 38 rfl) rfl (lv_at hl 0 rfl) ?_
  refine lv_dup G.hx G.hb (dcs_get dec_X12_expression_0 39 rfl) rfl ?_
  refine r_geti (k := 48) cls12 fi_12_48.1 fi_12_48.2 q_1056 G w k_a0.1 k_a0.2 (dcs_get dec_X12_expression_1 0 rfl) ?_
  refine lv_iconst (v := (1 : Int32)) G.hx G.hb (dcs_get dec_X12_expression_1 1 rfl) (by decide) ?_
  refine lv_iadd G.hx G.hb (dcs_get dec_X12_expression_1 2 rfl) ?_
  obtain ⟨σ7, e_σ7, hf⟩ := cL_some hf
  refine r_puti (k := 48) cls12 ct12 fi_12_48.1 fi_12_48.2 fp_12_48.1 fp_12_48.2 q_1056 rfl rfl G w k_a0.1 k_a0.2 (dcs_get dec_X12_expression_1 3 rfl) (fun H locs w => ?_)
  have w := Wd.nm e_σ7 w
  refine lv_goto (tgt := 23) G.hx G.hb (dcs_get dec_X12_expression_1 4 rfl) (by decide) ?_
  exact hb1 _ (Option.some.inj hf).symm _ _ _ w (lv_sub hl [0, 1] rfl)
set_option maxRecDepth 100000 in
set_option maxHeartbeats 4000000 in
theorem B_X12_expression_204 {H : Heap} {locs : List Loc} {ls : Array Slot} {σ0 : hSt} (a0 : Nat) (σ : hSt) (G : Gx p m c cX12_expression 3 s args RX12 D ay NM ad (aN NM ad)) (hm : meth.sig.returnType = none ∧ meth.locks = false) (ok_a0 : okr kM NM 12 a0 = true) (hf : F_X12_expression_204 a0 σ = some σ0)  (w : Wd D ay kM NM ad (aN NM ad) s σ H locs) (hl : lv_has ls 3 [(0, .ref (ad a0))]) : W p l e (rmK 3 61) s m args below meth c H locs 0 0 (MQ below (cV D ay kM NM ad σ0) args s 0 0 (aN NM ad)) (F0 m 204 ls []) := by
  have k_a0 := okr_in ok_a0
  unfold F_X12_expression_204 at hf
  refine lv_aload_n G.hx G.hb (dcs_get dec_X12_expression_2 26 rfl) rfl (lv_at hl 0 rfl) ?_
  refine lv_iconst (v := (0 : Int32)) G.hx G.hb (dcs_get dec_X12_expression_2 27 rfl) (by decide) ?_
  obtain ⟨σ9, h8, hf⟩ := cB_some hf
  refine a_v (k_V (As := [.int (0 : Int32)]) (rest := []) cls12 lb_X12_comesOut lv_X12_comesOut q_1322 (C_X12_comesOut G.2.2.1 a0 (0 : Int32) σ h8 ok_a0) ⟨(Nat.le_of_ble_eq_true rfl), (Nat.le_of_ble_eq_true rfl)⟩ G w k_a0.1 k_a0.2 rfl rfl hl.1 (Nat.le_of_ble_eq_true rfl) (dcs_get dec_X12_expression_2 28 rfl) ⟨Nat.le_refl _, Nat.le_refl _⟩) G w (fun H locs w => ?_)
  have e9 := Option.some.inj hf
  exact r_vret G w hm e9 (dcs_get dec_X12_expression_2 29 rfl)
set_option maxRecDepth 100000 in
set_option maxHeartbeats 4000000 in
theorem B_X12_expression_234 {H : Heap} {locs : List Loc} {ls : Array Slot} {σ0 : hSt} {o : (Int32 × hSt) ⊕ (hSt)} (a0 : Nat) (l1 : Int32) (l2 : Int32) (s0 : Nat) (s1 : Int32) (σ : hSt) (G : Gx p m c cX12_expression 3 s args RX12 D ay NM ad (aN NM ad)) (hm : meth.sig.returnType = none ∧ meth.locks = false) (ok_a0 : okr kM NM 12 a0 = true) (ok_s0 : okr kM NM 12 s0 = true) (hf : F_X12_expression_234 a0 l1 l2 s0 s1 σ = some o) (hb0 : ∀ (v : Int32 × hSt), o = .inl v → ∀ (H : Heap) (locs : List Loc) (ls : Array Slot), Wd D ay kM NM ad (aN NM ad) s v.2 H locs → lv_has ls 3 [(0, .ref (ad a0)), (1, .int l1), (2, .int v.1)] → W p l e (rmK 3 61) s m args below meth c H locs 0 0 (MQ below (cV D ay kM NM ad σ0) args s 0 0 (aN NM ad)) (F0 m 12 ls [])) (hr : ∀ x, o = .inr (x) → x = σ0) (w : Wd D ay kM NM ad (aN NM ad) s σ H locs) (hl : lv_has ls 3 [(0, .ref (ad a0)), (1, .int l1), (2, .int l2)]) : W p l e (rmK 3 61) s m args below meth c H locs 0 0 (MQ below (cV D ay kM NM ad σ0) args s 0 0 (aN NM ad)) (F0 m 234 ls [.int s1, .ref (ad s0)]) := by
  have k_a0 := okr_in ok_a0
  have k_s0 := okr_in ok_s0
  unfold F_X12_expression_234 at hf
  obtain ⟨σ11, h10, hf⟩ := cB_some hf
  refine a_v (k_V (As := [.int s1]) (rest := []) cls12 lb_X12_comesOut lv_X12_comesOut q_1322 (C_X12_comesOut G.2.2.1 s0 s1 σ h10 ok_s0) ⟨(Nat.le_of_ble_eq_true rfl), (Nat.le_of_ble_eq_true rfl)⟩ G w k_s0.1 k_s0.2 rfl rfl hl.1 (Nat.le_of_ble_eq_true rfl) (dcs_get dec_X12_expression_3 2 rfl) ⟨Nat.le_refl _, Nat.le_refl _⟩) G w (fun H locs w => ?_)
  refine lv_aload_n G.hx G.hb (dcs_get dec_X12_expression_3 3 rfl) rfl (lv_at hl 0 rfl) ?_
  obtain ⟨z12, e_z12, ok_z12, hf⟩ := cR_some hf
  have k_z12 := okr_in ok_z12
  refine r_getr (k := 47) cls12 fi_12_47.1 fi_12_47.2 q_1055 G w k_a0.1 k_a0.2 e_z12 (dcs_get dec_X12_expression_3 4 rfl) ?_
  refine lv_aload_n G.hx G.hb (dcs_get dec_X12_expression_3 5 rfl) rfl (lv_at hl 0 rfl) ?_
  refine r_geti (k := 48) cls12 fi_12_48.1 fi_12_48.2 q_1056 G w k_a0.1 k_a0.2 (dcs_get dec_X12_expression_3 6 rfl) ?_
  refine lv_aload_n G.hx G.hb (dcs_get dec_X12_expression_3 7 rfl) rfl (lv_at hl 0 rfl) ?_
  obtain ⟨z13, e_z13, ok_z13, hf⟩ := cR_some hf
  have k_z13 := okr_in ok_z13
  refine r_getr (k := 5) cls12 fi_12_5.1 fi_12_5.2 q_1013 G w k_a0.1 k_a0.2 e_z13 (dcs_get dec_X12_expression_3 8 rfl) ?_
  refine lv_aload_n G.hx G.hb (dcs_get dec_X12_expression_3 9 rfl) rfl (lv_at hl 0 rfl) ?_
  refine r_geti (k := 11) cls12 fi_12_11.1 fi_12_11.2 q_1019 G w k_a0.1 k_a0.2 (dcs_get dec_X12_expression_3 10 rfl) ?_
  obtain ⟨h14, hf⟩ := cG_some hf
  refine r_iald G w k_z13.1 k_z13.2 h14 (dcs_get dec_X12_expression_3 11 rfl) ?_
  obtain ⟨h15, hf⟩ := cG_some hf
  obtain ⟨σ16, e_σ16, hf⟩ := cL_some hf
  refine r_iast G w k_z12.1 k_z12.2 h15 (dcs_get dec_X12_expression_3 12 rfl) (fun H locs w => ?_)
  have w := Wd.nm e_σ16 w
  refine lv_aload_n G.hx G.hb (dcs_get dec_X12_expression_3 13 rfl) rfl (lv_at hl 0 rfl) ?_
  refine lv_dup G.hx G.hb (dcs_get dec_X12_expression_3 14 rfl) rfl ?_
  refine r_geti (k := 48) cls12 fi_12_48.1 fi_12_48.2 q_1056 G w k_a0.1 k_a0.2 (dcs_get dec_X12_expression_3 15 rfl) ?_
  refine lv_iconst (v := (1 : Int32)) G.hx G.hb (dcs_get dec_X12_expression_3 16 rfl) (by decide) ?_
  refine lv_iadd G.hx G.hb (dcs_get dec_X12_expression_3 17 rfl) ?_
  obtain ⟨σ17, e_σ17, hf⟩ := cL_some hf
  refine r_puti (k := 48) cls12 ct12 fi_12_48.1 fi_12_48.2 fp_12_48.1 fp_12_48.2 q_1056 rfl rfl G w k_a0.1 k_a0.2 (dcs_get dec_X12_expression_3 18 rfl) (fun H locs w => ?_)
  have w := Wd.nm e_σ17 w
  refine lv_aload_n G.hx G.hb (dcs_get dec_X12_expression_3 19 rfl) rfl (lv_at hl 0 rfl) ?_
  obtain ⟨σ19, h18, hf⟩ := cB_some hf
  refine a_v (k_V (As := []) (rest := []) cls12 lb_X12_goesOn lv_X12_goesOn q_1270 (C_X12_goesOn G.2.2.1 a0 σ17 h18 ok_a0) ⟨(Nat.le_of_ble_eq_true rfl), (Nat.le_of_ble_eq_true rfl)⟩ G w k_a0.1 k_a0.2 rfl rfl hl.1 (Nat.le_of_ble_eq_true rfl) (dcs_get dec_X12_expression_3 20 rfl) ⟨Nat.le_refl _, Nat.le_refl _⟩) G w (fun H locs w => ?_)
  refine lv_goto (tgt := 12) G.hx G.hb (dcs_get dec_X12_expression_3 21 rfl) (by decide) ?_
  exact hb0 _ (Option.some.inj hf).symm _ _ _ w (lv_sub hl [0, 1, 2] rfl)
set_option maxRecDepth 100000 in
set_option maxHeartbeats 4000000 in
theorem B_X12_expression_229 {H : Heap} {locs : List Loc} {ls : Array Slot} {σ0 : hSt} {o : (Int32 × hSt) ⊕ (hSt)} (a0 : Nat) (l1 : Int32) (l2 : Int32) (s0 : Nat) (σ : hSt) (G : Gx p m c cX12_expression 3 s args RX12 D ay NM ad (aN NM ad)) (hm : meth.sig.returnType = none ∧ meth.locks = false) (ok_a0 : okr kM NM 12 a0 = true) (ok_s0 : okr kM NM 12 s0 = true) (hf : F_X12_expression_229 a0 l1 l2 s0 σ = some o) (hb0 : ∀ (v : Int32 × hSt), o = .inl v → ∀ (H : Heap) (locs : List Loc) (ls : Array Slot), Wd D ay kM NM ad (aN NM ad) s v.2 H locs → lv_has ls 3 [(0, .ref (ad a0)), (1, .int l1), (2, .int v.1)] → W p l e (rmK 3 61) s m args below meth c H locs 0 0 (MQ below (cV D ay kM NM ad σ0) args s 0 0 (aN NM ad)) (F0 m 12 ls [])) (hr : ∀ x, o = .inr (x) → x = σ0) (w : Wd D ay kM NM ad (aN NM ad) s σ H locs) (hl : lv_has ls 3 [(0, .ref (ad a0)), (1, .int l1), (2, .int l2)]) : W p l e (rmK 3 61) s m args below meth c H locs 0 0 (MQ below (cV D ay kM NM ad σ0) args s 0 0 (aN NM ad)) (F0 m 229 ls [.ref (ad s0)]) := by
  have k_a0 := okr_in ok_a0
  have k_s0 := okr_in ok_s0
  unfold F_X12_expression_229 at hf
  refine lv_iconst (v := (1 : Int32)) G.hx G.hb (dcs_get dec_X12_expression_2 39 rfl) (by decide) ?_
  refine lv_goto (tgt := 234) G.hx G.hb (dcs_get dec_X12_expression_3 0 rfl) (by decide) ?_
  exact B_X12_expression_234 a0 l1 l2 s0 (1 : Int32) σ G hm ok_a0 ok_s0 hf hb0 hr w (lv_sub hl [0, 1, 2] rfl)
set_option maxRecDepth 100000 in
set_option maxHeartbeats 4000000 in
theorem B_X12_expression_186 {H : Heap} {locs : List Loc} {ls : Array Slot} {σ0 : hSt} {o : (Int32 × hSt) ⊕ (hSt)} (a0 : Nat) (l1 : Int32) (s0 : Int32) (σ : hSt) (G : Gx p m c cX12_expression 3 s args RX12 D ay NM ad (aN NM ad)) (hm : meth.sig.returnType = none ∧ meth.locks = false) (ok_a0 : okr kM NM 12 a0 = true) (hf : F_X12_expression_186 a0 l1 s0 σ = some o) (hb0 : ∀ (v : Int32 × hSt), o = .inl v → ∀ (H : Heap) (locs : List Loc) (ls : Array Slot), Wd D ay kM NM ad (aN NM ad) s v.2 H locs → lv_has ls 3 [(0, .ref (ad a0)), (1, .int l1), (2, .int v.1)] → W p l e (rmK 3 61) s m args below meth c H locs 0 0 (MQ below (cV D ay kM NM ad σ0) args s 0 0 (aN NM ad)) (F0 m 12 ls [])) (hr : ∀ x, o = .inr (x) → x = σ0) (w : Wd D ay kM NM ad (aN NM ad) s σ H locs) (hl : lv_has ls 3 [(0, .ref (ad a0)), (1, .int l1)]) : W p l e (rmK 3 61) s m args below meth c H locs 0 0 (MQ below (cV D ay kM NM ad σ0) args s 0 0 (aN NM ad)) (F0 m 186 ls [.int s0]) := by
  have k_a0 := okr_in ok_a0
  unfold F_X12_expression_186 at hf
  refine lv_istore_n (lv' := [(2, .int s0), (0, .ref (ad a0)), (1, .int l1)]) G.hx G.hb (dcs_get dec_X12_expression_2 16 rfl) rfl hl (by decide) rfl (fun ls hl => ?_)
  refine lv_iload_n G.hx G.hb (dcs_get dec_X12_expression_2 17 rfl) rfl (lv_at hl 0 rfl) ?_
  refine lv_if_ne (tgt := 210) G.hx G.hb (dcs_get dec_X12_expression_2 18 rfl) (by decide) (fun hc => ?_) (fun hc => ?_)
  · rw [if_neg hc] at hf
    refine lv_aload_n G.hx G.hb (dcs_get dec_X12_expression_2 30 rfl) rfl (lv_at hl 1 rfl) ?_
    refine lv_aload_n G.hx G.hb (dcs_get dec_X12_expression_2 31 rfl) rfl (lv_at hl 1 rfl) ?_
    refine lv_bipush (v := (10 : Int32)) G.hx G.hb (dcs_get dec_X12_expression_2 32 rfl) (by decide) ?_
    obtain ⟨v21, h20, hf⟩ := cB_some hf
    refine a_i (k_V (As := [.int (10 : Int32)]) (rest := [.ref (ad a0)]) cls12 lb_X12_is lv_X12_is q_1254 (C_X12_is G.2.2.1 a0 (10 : Int32) σ h20 ok_a0) ⟨(Nat.le_of_ble_eq_true rfl), (Nat.le_of_ble_eq_true rfl)⟩ G w k_a0.1 k_a0.2 rfl rfl hl.1 (Nat.le_of_ble_eq_true rfl) (dcs_get dec_X12_expression_2 33 rfl) ⟨Nat.le_refl _, Nat.le_refl _⟩) G w (fun H locs w => ?_)
    refine lv_if_ne (tgt := 229) G.hx G.hb (dcs_get dec_X12_expression_2 34 rfl) (by decide) (fun hc => ?_) (fun hc => ?_)
    · rw [if_neg hc] at hf
      exact B_X12_expression_229 a0 l1 s0 a0 σ G hm ok_a0 ok_a0 hf hb0 hr w (lv_sub hl [1, 2, 0] rfl)
    · rw [if_pos hc] at hf
      refine lv_aload_n G.hx G.hb (dcs_get dec_X12_expression_2 35 rfl) rfl (lv_at hl 1 rfl) ?_
      refine lv_bipush (v := (15 : Int32)) G.hx G.hb (dcs_get dec_X12_expression_2 36 rfl) (by decide) ?_
      obtain ⟨v23, h22, hf⟩ := cB_some hf
      refine a_i (k_V (As := [.int (15 : Int32)]) (rest := [.ref (ad a0)]) cls12 lb_X12_is lv_X12_is q_1254 (C_X12_is G.2.2.1 a0 (15 : Int32) σ h22 ok_a0) ⟨(Nat.le_of_ble_eq_true rfl), (Nat.le_of_ble_eq_true rfl)⟩ G w k_a0.1 k_a0.2 rfl rfl hl.1 (Nat.le_of_ble_eq_true rfl) (dcs_get dec_X12_expression_2 37 rfl) ⟨Nat.le_refl _, Nat.le_refl _⟩) G w (fun H locs w => ?_)
      refine lv_if_eq (tgt := 233) G.hx G.hb (dcs_get dec_X12_expression_2 38 rfl) (by decide) (fun hc => ?_) (fun hc => ?_)
      · rw [if_pos hc] at hf
        refine lv_iconst (v := (0 : Int32)) G.hx G.hb (dcs_get dec_X12_expression_3 1 rfl) (by decide) ?_
        exact B_X12_expression_234 a0 l1 s0 a0 (0 : Int32) σ G hm ok_a0 ok_a0 hf hb0 hr w (lv_sub hl [1, 2, 0] rfl)
      · rw [if_neg hc] at hf
        exact B_X12_expression_229 a0 l1 s0 a0 σ G hm ok_a0 ok_a0 hf hb0 hr w (lv_sub hl [1, 2, 0] rfl)
  · rw [if_pos hc] at hf
    refine lv_aload_n G.hx G.hb (dcs_get dec_X12_expression_2 19 rfl) rfl (lv_at hl 1 rfl) ?_
    refine r_geti (k := 12) cls12 fi_12_12.1 fi_12_12.2 q_1020 G w k_a0.1 k_a0.2 (dcs_get dec_X12_expression_2 20 rfl) ?_
    refine lv_iload_n G.hx G.hb (dcs_get dec_X12_expression_2 21 rfl) rfl (lv_at hl 2 rfl) ?_
    refine lv_icmp_le (tgt := 204) G.hx G.hb (dcs_get dec_X12_expression_2 22 rfl) (by decide) (fun hc => ?_) (fun hc => ?_)
    · rw [if_pos hc] at hf
      obtain ⟨x9, h9, e9⟩ := map_some_inv hf
      subst e9
      have e8 := hr _ rfl
      rw [e8] at h9
      exact B_X12_expression_204 a0 σ G hm ok_a0 h9 w (lv_sub hl [1] rfl)
    · rw [if_neg hc] at hf
      refine lv_aload_n G.hx G.hb (dcs_get dec_X12_expression_2 23 rfl) rfl (lv_at hl 1 rfl) ?_
      refine lv_iconst (v := (1 : Int32)) G.hx G.hb (dcs_get dec_X12_expression_2 24 rfl) (by decide) ?_
      obtain ⟨σ25, h24, hf⟩ := cB_some hf
      refine a_v (k_V (As := [.int (1 : Int32)]) (rest := []) cls12 lb_X12_fail lv_X12_fail q_1266 (C_X12_fail G.2.2.1 a0 (1 : Int32) σ h24 ok_a0) ⟨(Nat.le_of_ble_eq_true rfl), (Nat.le_of_ble_eq_true rfl)⟩ G w k_a0.1 k_a0.2 rfl rfl hl.1 (Nat.le_of_ble_eq_true rfl) (dcs_get dec_X12_expression_2 25 rfl) ⟨Nat.le_refl _, Nat.le_refl _⟩) G w (fun H locs w => ?_)
      obtain ⟨x9, h9, e9⟩ := map_some_inv hf
      subst e9
      have e8 := hr _ rfl
      rw [e8] at h9
      exact B_X12_expression_204 a0 σ25 G hm ok_a0 h9 w (lv_sub hl [1] rfl)
set_option maxRecDepth 100000 in
set_option maxHeartbeats 4000000 in
theorem B_X12_expression_181 {H : Heap} {locs : List Loc} {ls : Array Slot} {σ0 : hSt} {o : (Int32 × hSt) ⊕ (hSt)} (a0 : Nat) (l1 : Int32) (σ : hSt) (G : Gx p m c cX12_expression 3 s args RX12 D ay NM ad (aN NM ad)) (hm : meth.sig.returnType = none ∧ meth.locks = false) (ok_a0 : okr kM NM 12 a0 = true) (hf : F_X12_expression_181 a0 l1 σ = some o) (hb0 : ∀ (v : Int32 × hSt), o = .inl v → ∀ (H : Heap) (locs : List Loc) (ls : Array Slot), Wd D ay kM NM ad (aN NM ad) s v.2 H locs → lv_has ls 3 [(0, .ref (ad a0)), (1, .int l1), (2, .int v.1)] → W p l e (rmK 3 61) s m args below meth c H locs 0 0 (MQ below (cV D ay kM NM ad σ0) args s 0 0 (aN NM ad)) (F0 m 12 ls [])) (hr : ∀ x, o = .inr (x) → x = σ0) (w : Wd D ay kM NM ad (aN NM ad) s σ H locs) (hl : lv_has ls 3 [(0, .ref (ad a0)), (1, .int l1)]) : W p l e (rmK 3 61) s m args below meth c H locs 0 0 (MQ below (cV D ay kM NM ad σ0) args s 0 0 (aN NM ad)) (F0 m 181 ls []) := by
  have k_a0 := okr_in ok_a0
  unfold F_X12_expression_181 at hf
  refine lv_iconst (v := (1 : Int32)) G.hx G.hb (dcs_get dec_X12_expression_2 13 rfl) (by decide) ?_
  refine lv_goto (tgt := 186) G.hx G.hb (dcs_get dec_X12_expression_2 14 rfl) (by decide) ?_
  exact B_X12_expression_186 a0 l1 (1 : Int32) σ G hm ok_a0 hf hb0 hr w (lv_sub hl [0, 1] rfl)
set_option maxRecDepth 100000 in
set_option maxHeartbeats 4000000 in
theorem B_X12_expression_145 {H : Heap} {locs : List Loc} {ls : Array Slot} {σ0 : hSt} {o : (Int32 × hSt) ⊕ (hSt)} (a0 : Nat) (l1 : Int32) (σ : hSt) (G : Gx p m c cX12_expression 3 s args RX12 D ay NM ad (aN NM ad)) (hm : meth.sig.returnType = none ∧ meth.locks = false) (ok_a0 : okr kM NM 12 a0 = true) (hf : F_X12_expression_145 a0 l1 σ = some o) (hb0 : ∀ (v : Int32 × hSt), o = .inl v → ∀ (H : Heap) (locs : List Loc) (ls : Array Slot), Wd D ay kM NM ad (aN NM ad) s v.2 H locs → lv_has ls 3 [(0, .ref (ad a0)), (1, .int l1), (2, .int v.1)] → W p l e (rmK 3 61) s m args below meth c H locs 0 0 (MQ below (cV D ay kM NM ad σ0) args s 0 0 (aN NM ad)) (F0 m 12 ls [])) (hr : ∀ x, o = .inr (x) → x = σ0) (w : Wd D ay kM NM ad (aN NM ad) s σ H locs) (hl : lv_has ls 3 [(0, .ref (ad a0)), (1, .int l1)]) : W p l e (rmK 3 61) s m args below meth c H locs 0 0 (MQ below (cV D ay kM NM ad σ0) args s 0 0 (aN NM ad)) (F0 m 145 ls []) := by
  have k_a0 := okr_in ok_a0
  unfold F_X12_expression_145 at hf
  refine lv_aload_n G.hx G.hb (dcs_get dec_X12_expression_1 37 rfl) rfl (lv_at hl 0 rfl) ?_
  refine lv_bipush (v := (8 : Int32)) G.hx G.hb (dcs_get dec_X12_expression_1 38 rfl) (by decide) ?_
  obtain ⟨v27, h26, hf⟩ := cB_some hf
  refine a_i (k_V (As := [.int (8 : Int32)]) (rest := []) cls12 lb_X12_is lv_X12_is q_1254 (C_X12_is G.2.2.1 a0 (8 : Int32) σ h26 ok_a0) ⟨(Nat.le_of_ble_eq_true rfl), (Nat.le_of_ble_eq_true rfl)⟩ G w k_a0.1 k_a0.2 rfl rfl hl.1 (Nat.le_of_ble_eq_true rfl) (dcs_get dec_X12_expression_1 39 rfl) ⟨Nat.le_refl _, Nat.le_refl _⟩) G w (fun H locs w => ?_)
  refine lv_if_ne (tgt := 181) G.hx G.hb (dcs_get dec_X12_expression_2 0 rfl) (by decide) (fun hc => ?_) (fun hc => ?_)
  · rw [if_neg hc] at hf
    exact B_X12_expression_181 a0 l1 σ G hm ok_a0 hf hb0 hr w (lv_sub hl [0, 1] rfl)
  · rw [if_pos hc] at hf
    refine lv_aload_n G.hx G.hb (dcs_get dec_X12_expression_2 1 rfl) rfl (lv_at hl 0 rfl) ?_
    refine lv_bipush (v := (9 : Int32)) G.hx G.hb (dcs_get dec_X12_expression_2 2 rfl) (by decide) ?_
    obtain ⟨v29, h28, hf⟩ := cB_some hf
    refine a_i (k_V (As := [.int (9 : Int32)]) (rest := []) cls12 lb_X12_is lv_X12_is q_1254 (C_X12_is G.2.2.1 a0 (9 : Int32) σ h28 ok_a0) ⟨(Nat.le_of_ble_eq_true rfl), (Nat.le_of_ble_eq_true rfl)⟩ G w k_a0.1 k_a0.2 rfl rfl hl.1 (Nat.le_of_ble_eq_true rfl) (dcs_get dec_X12_expression_2 3 rfl) ⟨Nat.le_refl _, Nat.le_refl _⟩) G w (fun H locs w => ?_)
    refine lv_if_ne (tgt := 181) G.hx G.hb (dcs_get dec_X12_expression_2 4 rfl) (by decide) (fun hc => ?_) (fun hc => ?_)
    · rw [if_neg hc] at hf
      exact B_X12_expression_181 a0 l1 σ G hm ok_a0 hf hb0 hr w (lv_sub hl [0, 1] rfl)
    · rw [if_pos hc] at hf
      refine lv_aload_n G.hx G.hb (dcs_get dec_X12_expression_2 5 rfl) rfl (lv_at hl 0 rfl) ?_
      refine lv_bipush (v := (10 : Int32)) G.hx G.hb (dcs_get dec_X12_expression_2 6 rfl) (by decide) ?_
      obtain ⟨v31, h30, hf⟩ := cB_some hf
      refine a_i (k_V (As := [.int (10 : Int32)]) (rest := []) cls12 lb_X12_is lv_X12_is q_1254 (C_X12_is G.2.2.1 a0 (10 : Int32) σ h30 ok_a0) ⟨(Nat.le_of_ble_eq_true rfl), (Nat.le_of_ble_eq_true rfl)⟩ G w k_a0.1 k_a0.2 rfl rfl hl.1 (Nat.le_of_ble_eq_true rfl) (dcs_get dec_X12_expression_2 7 rfl) ⟨Nat.le_refl _, Nat.le_refl _⟩) G w (fun H locs w => ?_)
      refine lv_if_ne (tgt := 181) G.hx G.hb (dcs_get dec_X12_expression_2 8 rfl) (by decide) (fun hc => ?_) (fun hc => ?_)
      · rw [if_neg hc] at hf
        exact B_X12_expression_181 a0 l1 σ G hm ok_a0 hf hb0 hr w (lv_sub hl [0, 1] rfl)
      · rw [if_pos hc] at hf
        refine lv_aload_n G.hx G.hb (dcs_get dec_X12_expression_2 9 rfl) rfl (lv_at hl 0 rfl) ?_
        refine lv_bipush (v := (15 : Int32)) G.hx G.hb (dcs_get dec_X12_expression_2 10 rfl) (by decide) ?_
        obtain ⟨v33, h32, hf⟩ := cB_some hf
        refine a_i (k_V (As := [.int (15 : Int32)]) (rest := []) cls12 lb_X12_is lv_X12_is q_1254 (C_X12_is G.2.2.1 a0 (15 : Int32) σ h32 ok_a0) ⟨(Nat.le_of_ble_eq_true rfl), (Nat.le_of_ble_eq_true rfl)⟩ G w k_a0.1 k_a0.2 rfl rfl hl.1 (Nat.le_of_ble_eq_true rfl) (dcs_get dec_X12_expression_2 11 rfl) ⟨Nat.le_refl _, Nat.le_refl _⟩) G w (fun H locs w => ?_)
        refine lv_if_eq (tgt := 185) G.hx G.hb (dcs_get dec_X12_expression_2 12 rfl) (by decide) (fun hc => ?_) (fun hc => ?_)
        · rw [if_pos hc] at hf
          refine lv_iconst (v := (0 : Int32)) G.hx G.hb (dcs_get dec_X12_expression_2 15 rfl) (by decide) ?_
          exact B_X12_expression_186 a0 l1 (0 : Int32) σ G hm ok_a0 hf hb0 hr w (lv_sub hl [0, 1] rfl)
        · rw [if_neg hc] at hf
          exact B_X12_expression_181 a0 l1 σ G hm ok_a0 hf hb0 hr w (lv_sub hl [0, 1] rfl)
set_option maxRecDepth 100000 in
set_option maxHeartbeats 4000000 in
theorem B_X12_expression_96b {H : Heap} {locs : List Loc} {ls : Array Slot} {σ0 : hSt} {o : (hSt) ⊕ ((Int32 × hSt) ⊕ (hSt))} (a0 : Nat) (l1 : Int32) (σ : hSt) (G : Gx p m c cX12_expression 3 s args RX12 D ay NM ad (aN NM ad)) (hm : meth.sig.returnType = none ∧ meth.locks = false) (ok_a0 : okr kM NM 12 a0 = true) (hf : F_X12_expression_96b a0 l1 σ = some o) (hb0 : ∀ (v : Int32 × hSt), o = .inr (.inl v) → ∀ (H : Heap) (locs : List Loc) (ls : Array Slot), Wd D ay kM NM ad (aN NM ad) s v.2 H locs → lv_has ls 3 [(0, .ref (ad a0)), (1, .int l1), (2, .int v.1)] → W p l e (rmK 3 61) s m args below meth c H locs 0 0 (MQ below (cV D ay kM NM ad σ0) args s 0 0 (aN NM ad)) (F0 m 12 ls [])) (hb1 : ∀ (v : hSt), o = .inl v → ∀ (H : Heap) (locs : List Loc) (ls : Array Slot), Wd D ay kM NM ad (aN NM ad) s v H locs → lv_has ls 3 [(0, .ref (ad a0)), (1, .int l1)] → W p l e (rmK 3 61) s m args below meth c H locs 0 0 (MQ below (cV D ay kM NM ad σ0) args s 0 0 (aN NM ad)) (F0 m 96 ls [])) (hr : ∀ x, o = .inr (.inr (x)) → x = σ0) (w : Wd D ay kM NM ad (aN NM ad) s σ H locs) (hl : lv_has ls 3 [(0, .ref (ad a0)), (1, .int l1)]) : W p l e (rmK 3 61) s m args below meth c H locs 0 0 (MQ below (cV D ay kM NM ad σ0) args s 0 0 (aN NM ad)) (F0 m 96 ls []) := by
  have k_a0 := okr_in ok_a0
  unfold F_X12_expression_96b at hf
  refine lv_aload_n G.hx G.hb (dcs_get dec_X12_expression_1 11 rfl) rfl (lv_at hl 0 rfl) ?_
  refine lv_bipush (v := (7 : Int32)) G.hx G.hb (dcs_get dec_X12_expression_1 12 rfl) (by decide) ?_
  obtain ⟨v35, h34, hf⟩ := cB_some hf
  refine a_i (k_V (As := [.int (7 : Int32)]) (rest := []) cls12 lb_X12_is lv_X12_is q_1254 (C_X12_is G.2.2.1 a0 (7 : Int32) σ h34 ok_a0) ⟨(Nat.le_of_ble_eq_true rfl), (Nat.le_of_ble_eq_true rfl)⟩ G w k_a0.1 k_a0.2 rfl rfl hl.1 (Nat.le_of_ble_eq_true rfl) (dcs_get dec_X12_expression_1 13 rfl) ⟨Nat.le_refl _, Nat.le_refl _⟩) G w (fun H locs w => ?_)
  refine lv_if_eq (tgt := 145) G.hx G.hb (dcs_get dec_X12_expression_1 14 rfl) (by decide) (fun hc => ?_) (fun hc => ?_)
  · rw [if_pos hc] at hf
    obtain ⟨x9, h9, e9⟩ := map_some_inv hf
    subst e9
    exact B_X12_expression_145 a0 l1 σ G hm ok_a0 h9 (fun v e => hb0 v (by rw [e])) (fun x e => hr x (by rw [e])) w (lv_sub hl [0, 1] rfl)
  · rw [if_neg hc] at hf
    refine lv_aload_n G.hx G.hb (dcs_get dec_X12_expression_1 15 rfl) rfl (lv_at hl 0 rfl) ?_
    refine r_geti (k := 12) cls12 fi_12_12.1 fi_12_12.2 q_1020 G w k_a0.1 k_a0.2 (dcs_get dec_X12_expression_1 16 rfl) ?_
    refine lv_iload_n G.hx G.hb (dcs_get dec_X12_expression_1 17 rfl) rfl (lv_at hl 1 rfl) ?_
    refine lv_icmp_le (tgt := 145) G.hx G.hb (dcs_get dec_X12_expression_1 18 rfl) (by decide) (fun hc => ?_) (fun hc => ?_)
    · rw [if_pos hc] at hf
      obtain ⟨x9, h9, e9⟩ := map_some_inv hf
      subst e9
      exact B_X12_expression_145 a0 l1 σ G hm ok_a0 h9 (fun v e => hb0 v (by rw [e])) (fun x e => hr x (by rw [e])) w (lv_sub hl [0, 1] rfl)
    · rw [if_neg hc] at hf
      refine lv_aload_n G.hx G.hb (dcs_get dec_X12_expression_1 19 rfl) rfl (lv_at hl 0 rfl) ?_
      refine lv_iconst (v := (0 : Int32)) G.hx G.hb (dcs_get dec_X12_expression_1 20 rfl) (by decide) ?_
      obtain ⟨σ37, h36, hf⟩ := cB_some hf
      refine a_v (k_V (As := [.int (0 : Int32)]) (rest := []) cls12 lb_X12_comesOut lv_X12_comesOut q_1322 (C_X12_comesOut G.2.2.1 a0 (0 : Int32) σ h36 ok_a0) ⟨(Nat.le_of_ble_eq_true rfl), (Nat.le_of_ble_eq_true rfl)⟩ G w k_a0.1 k_a0.2 rfl rfl hl.1 (Nat.le_of_ble_eq_true rfl) (dcs_get dec_X12_expression_1 21 rfl) ⟨Nat.le_refl _, Nat.le_refl _⟩) G w (fun H locs w => ?_)
      refine lv_aload_n G.hx G.hb (dcs_get dec_X12_expression_1 22 rfl) rfl (lv_at hl 0 rfl) ?_
      refine lv_dup G.hx G.hb (dcs_get dec_X12_expression_1 23 rfl) rfl ?_
      refine r_geti (k := 48) cls12 fi_12_48.1 fi_12_48.2 q_1056 G w k_a0.1 k_a0.2 (dcs_get dec_X12_expression_1 24 rfl) ?_
      refine lv_iconst (v := (1 : Int32)) G.hx G.hb (dcs_get dec_X12_expression_1 25 rfl) (by decide) ?_
      refine lv_isub G.hx G.hb (dcs_get dec_X12_expression_1 26 rfl) ?_
      obtain ⟨σ38, e_σ38, hf⟩ := cL_some hf
      refine r_puti (k := 48) cls12 ct12 fi_12_48.1 fi_12_48.2 fp_12_48.1 fp_12_48.2 q_1056 rfl rfl G w k_a0.1 k_a0.2 (dcs_get dec_X12_expression_1 27 rfl) (fun H locs w => ?_)
      have w := Wd.nm e_σ38 w
      refine lv_aload_n G.hx G.hb (dcs_get dec_X12_expression_1 28 rfl) rfl (lv_at hl 0 rfl) ?_
      refine lv_dup G.hx G.hb (dcs_get dec_X12_expression_1 29 rfl) rfl ?_
      refine r_geti (k := 12) cls12 fi_12_12.1 fi_12_12.2 q_1020 G w k_a0.1 k_a0.2 (dcs_get dec_X12_expression_1 30 rfl) ?_
      refine lv_iconst (v := (1 : Int32)) G.hx G.hb (dcs_get dec_X12_expression_1 31 rfl) (by decide) ?_
      refine lv_isub G.hx G.hb (dcs_get dec_X12_expression_1 32 rfl) ?_
      obtain ⟨σ39, e_σ39, hf⟩ := cL_some hf
      refine r_puti (k := 12) cls12 ct12 fi_12_12.1 fi_12_12.2 fp_12_12.1 fp_12_12.2 q_1020 rfl rfl G w k_a0.1 k_a0.2 (dcs_get dec_X12_expression_1 33 rfl) (fun H locs w => ?_)
      have w := Wd.nm e_σ39 w
      refine lv_aload_n G.hx G.hb (dcs_get dec_X12_expression_1 34 rfl) rfl (lv_at hl 0 rfl) ?_
      obtain ⟨σ41, h40, hf⟩ := cB_some hf
      refine a_v (k_V (As := []) (rest := []) cls12 lb_X12_goesOn lv_X12_goesOn q_1270 (C_X12_goesOn G.2.2.1 a0 σ39 h40 ok_a0) ⟨(Nat.le_of_ble_eq_true rfl), (Nat.le_of_ble_eq_true rfl)⟩ G w k_a0.1 k_a0.2 rfl rfl hl.1 (Nat.le_of_ble_eq_true rfl) (dcs_get dec_X12_expression_1 35 rfl) ⟨Nat.le_refl _, Nat.le_refl _⟩) G w (fun H locs w => ?_)
      refine lv_goto (tgt := 96) G.hx G.hb (dcs_get dec_X12_expression_1 36 rfl) (by decide) ?_
      exact hb1 _ (Option.some.inj hf).symm _ _ _ w (lv_sub hl [0, 1] rfl)
set_option maxRecDepth 100000 in
set_option maxHeartbeats 4000000 in
theorem H_X12_expression_96 {σ0 : hSt} {o : (Int32 × hSt) ⊕ (hSt)} (a0 : Nat) (l1 : Int32) (G : Gx p m c cX12_expression 3 s args RX12 D ay NM ad (aN NM ad)) (hm : meth.sig.returnType = none ∧ meth.locks = false) (ok_a0 : okr kM NM 12 a0 = true) (hb0 : ∀ (v : Int32 × hSt), o = .inl v → ∀ (H : Heap) (locs : List Loc) (ls : Array Slot), Wd D ay kM NM ad (aN NM ad) s v.2 H locs → lv_has ls 3 [(0, .ref (ad a0)), (1, .int l1), (2, .int v.1)] → W p l e (rmK 3 61) s m args below meth c H locs 0 0 (MQ below (cV D ay kM NM ad σ0) args s 0 0 (aN NM ad)) (F0 m 12 ls [])) (hr : ∀ x, o = .inr (x) → x = σ0) : ∀ (k : Nat) (v : hSt), lp (S_X12_expression_96 a0 l1) k v = some o → ∀ (H : Heap) (locs : List Loc) (ls : Array Slot), Wd D ay kM NM ad (aN NM ad) s v H locs → lv_has ls 3 [(0, .ref (ad a0)), (1, .int l1)] → W p l e (rmK 3 61) s m args below meth c H locs 0 0 (MQ below (cV D ay kM NM ad σ0) args s 0 0 (aN NM ad)) (F0 m 96 ls []) := by
  intro k
  induction k with
  | zero => intro v hf; cases hf
  | succ k ih =>
    intro v hf H locs ls w hl
    obtain ⟨o1, h1, h2, h3⟩ := lp_some hf
    exact B_X12_expression_96b a0 l1 v G hm ok_a0 h1 (fun v' e => hb0 v' (h3 _ e).symm) (fun v' e => ih v' (h2 v' e)) (fun x e => hr x (h3 _ e).symm) w hl
set_option maxRecDepth 100000 in
set_option maxHeartbeats 4000000 in
theorem B_X12_expression_96 {H : Heap} {locs : List Loc} {ls : Array Slot} {σ0 : hSt} {o : (Int32 × hSt) ⊕ (hSt)} (a0 : Nat) (l1 : Int32) (σ : hSt) (G : Gx p m c cX12_expression 3 s args RX12 D ay NM ad (aN NM ad)) (hm : meth.sig.returnType = none ∧ meth.locks = false) (ok_a0 : okr kM NM 12 a0 = true) (hf : F_X12_expression_96 a0 l1 σ = some o) (hb0 : ∀ (v : Int32 × hSt), o = .inl v → ∀ (H : Heap) (locs : List Loc) (ls : Array Slot), Wd D ay kM NM ad (aN NM ad) s v.2 H locs → lv_has ls 3 [(0, .ref (ad a0)), (1, .int l1), (2, .int v.1)] → W p l e (rmK 3 61) s m args below meth c H locs 0 0 (MQ below (cV D ay kM NM ad σ0) args s 0 0 (aN NM ad)) (F0 m 12 ls [])) (hr : ∀ x, o = .inr (x) → x = σ0) (w : Wd D ay kM NM ad (aN NM ad) s σ H locs) (hl : lv_has ls 3 [(0, .ref (ad a0)), (1, .int l1)]) : W p l e (rmK 3 61) s m args below meth c H locs 0 0 (MQ below (cV D ay kM NM ad σ0) args s 0 0 (aN NM ad)) (F0 m 96 ls []) := by
  unfold F_X12_expression_96 at hf
  exact H_X12_expression_96 a0 l1  G hm ok_a0 hb0 hr fuel (σ) hf _ _ _ w hl
set_option maxRecDepth 100000 in
set_option maxHeartbeats 4000000 in
theorem B_X12_expression_23b {H : Heap} {locs : List Loc} {ls : Array Slot} {σ0 : hSt} {o : (hSt) ⊕ ((Int32 × hSt) ⊕ (hSt))} (a0 : Nat) (l1 : Int32) (σ : hSt) (G : Gx p m c cX12_expression 3 s args RX12 D ay NM ad (aN NM ad)) (hm : meth.sig.returnType = none ∧ meth.locks = false) (ok_a0 : okr kM NM 12 a0 = true) (hf : F_X12_expression_23b a0 l1 σ = some o) (hb0 : ∀ (v : Int32 × hSt), o = .inr (.inl v) → ∀ (H : Heap) (locs : List Loc) (ls : Array Slot), Wd D ay kM NM ad (aN NM ad) s v.2 H locs → lv_has ls 3 [(0, .ref (ad a0)), (1, .int l1), (2, .int v.1)] → W p l e (rmK 3 61) s m args below meth c H locs 0 0 (MQ below (cV D ay kM NM ad σ0) args s 0 0 (aN NM ad)) (F0 m 12 ls [])) (hb1 : ∀ (v : hSt), o = .inl v → ∀ (H : Heap) (locs : List Loc) (ls : Array Slot), Wd D ay kM NM ad (aN NM ad) s v H locs → lv_has ls 3 [(0, .ref (ad a0)), (1, .int l1)] → W p l e (rmK 3 61) s m args below meth c H locs 0 0 (MQ below (cV D ay kM NM ad σ0) args s 0 0 (aN NM ad)) (F0 m 23 ls [])) (hr : ∀ x, o = .inr (.inr (x)) → x = σ0) (w : Wd D ay kM NM ad (aN NM ad) s σ H locs) (hl : lv_has ls 3 [(0, .ref (ad a0)), (1, .int l1)]) : W p l e (rmK 3 61) s m args below meth c H locs 0 0 (MQ below (cV D ay kM NM ad σ0) args s 0 0 (aN NM ad)) (F0 m 23 ls []) := by
  have k_a0 := okr_in ok_a0
  unfold F_X12_expression_23b at hf
  refine lv_aload_n G.hx G.hb (dcs_get dec_X12_expression_0 13 rfl) rfl (lv_at hl 0 rfl) ?_
  refine lv_bipush (v := (6 : Int32)) G.hx G.hb (dcs_get dec_X12_expression_0 14 rfl) (by decide) ?_
  obtain ⟨v43, h42, hf⟩ := cB_some hf
  refine a_i (k_V (As := [.int (6 : Int32)]) (rest := []) cls12 lb_X12_is lv_X12_is q_1254 (C_X12_is G.2.2.1 a0 (6 : Int32) σ h42 ok_a0) ⟨(Nat.le_of_ble_eq_true rfl), (Nat.le_of_ble_eq_true rfl)⟩ G w k_a0.1 k_a0.2 rfl rfl hl.1 (Nat.le_of_ble_eq_true rfl) (dcs_get dec_X12_expression_0 15 rfl) ⟨Nat.le_refl _, Nat.le_refl _⟩) G w (fun H locs w => ?_)
  refine lv_if_eq (tgt := 84) G.hx G.hb (dcs_get dec_X12_expression_0 16 rfl) (by decide) (fun hc => ?_) (fun hc => ?_)
  · rw [if_pos hc] at hf
    refine lv_aload_n G.hx G.hb (dcs_get dec_X12_expression_1 5 rfl) rfl (lv_at hl 0 rfl) ?_
    obtain ⟨σ45, h44, hf⟩ := cB_some hf
    refine a_v (k_V (As := []) (rest := []) cls12 lb_X12_unit lv_X12_unit q_1314 (C_X12_unit G.2.2.1 a0 σ h44 ok_a0) ⟨(Nat.le_of_ble_eq_true rfl), (Nat.le_of_ble_eq_true rfl)⟩ G w k_a0.1 k_a0.2 rfl rfl hl.1 (Nat.le_of_ble_eq_true rfl) (dcs_get dec_X12_expression_1 6 rfl) ⟨Nat.le_refl _, Nat.le_refl _⟩) G w (fun H locs w => ?_)
    refine lv_aload_n G.hx G.hb (dcs_get dec_X12_expression_1 7 rfl) rfl (lv_at hl 0 rfl) ?_
    refine r_geti (k := 13) cls12 fi_12_13.1 fi_12_13.2 q_1021 G w k_a0.1 k_a0.2 (dcs_get dec_X12_expression_1 8 rfl) ?_
    refine lv_if_le (tgt := 96) G.hx G.hb (dcs_get dec_X12_expression_1 9 rfl) (by decide) (fun hc => ?_) (fun hc => ?_)
    · rw [if_pos hc] at hf
      obtain ⟨x9, h9, e9⟩ := map_some_inv hf
      subst e9
      exact B_X12_expression_96 a0 l1 σ45 G hm ok_a0 h9 (fun v e => hb0 v (by rw [e])) (fun x e => hr x (by rw [e])) w (lv_sub hl [0, 1] rfl)
    · rw [if_neg hc] at hf
      have e9 := hr _ (Option.some.inj hf).symm
      exact r_vret G w hm e9 (dcs_get dec_X12_expression_1 10 rfl)
  · rw [if_neg hc] at hf
    refine lv_aload_n G.hx G.hb (dcs_get dec_X12_expression_0 17 rfl) rfl (lv_at hl 0 rfl) ?_
    refine r_geti (k := 12) cls12 fi_12_12.1 fi_12_12.2 q_1020 G w k_a0.1 k_a0.2 (dcs_get dec_X12_expression_0 18 rfl) ?_
    refine lv_bipush (v := (6 : Int32)) G.hx G.hb (dcs_get dec_X12_expression_0 19 rfl) (by decide) ?_
    refine lv_icmp_ne (tgt := 46) G.hx G.hb (dcs_get dec_X12_expression_0 20 rfl) (by decide) (fun hc => ?_) (fun hc => ?_)
    · rw [if_neg hc] at hf
      exact B_X12_expression_46 a0 l1 σ G hm ok_a0 hf hb0 hb1 hr w (lv_sub hl [0, 1] rfl)
    · rw [if_pos hc] at hf
      refine lv_aload_n G.hx G.hb (dcs_get dec_X12_expression_0 21 rfl) rfl (lv_at hl 0 rfl) ?_
      refine lv_iconst (v := (2 : Int32)) G.hx G.hb (dcs_get dec_X12_expression_0 22 rfl) (by decide) ?_
      obtain ⟨σ47, h46, hf⟩ := cB_some hf
      refine a_v (k_V (As := [.int (2 : Int32)]) (rest := []) cls12 lb_X12_fail lv_X12_fail q_1266 (C_X12_fail G.2.2.1 a0 (2 : Int32) σ h46 ok_a0) ⟨(Nat.le_of_ble_eq_true rfl), (Nat.le_of_ble_eq_true rfl)⟩ G w k_a0.1 k_a0.2 rfl rfl hl.1 (Nat.le_of_ble_eq_true rfl) (dcs_get dec_X12_expression_0 23 rfl) ⟨Nat.le_refl _, Nat.le_refl _⟩) G w (fun H locs w => ?_)
      exact B_X12_expression_46 a0 l1 σ47 G hm ok_a0 hf hb0 hb1 hr w (lv_sub hl [0, 1] rfl)
set_option maxRecDepth 100000 in
set_option maxHeartbeats 4000000 in
theorem H_X12_expression_23 {σ0 : hSt} {o : (Int32 × hSt) ⊕ (hSt)} (a0 : Nat) (l1 : Int32) (G : Gx p m c cX12_expression 3 s args RX12 D ay NM ad (aN NM ad)) (hm : meth.sig.returnType = none ∧ meth.locks = false) (ok_a0 : okr kM NM 12 a0 = true) (hb0 : ∀ (v : Int32 × hSt), o = .inl v → ∀ (H : Heap) (locs : List Loc) (ls : Array Slot), Wd D ay kM NM ad (aN NM ad) s v.2 H locs → lv_has ls 3 [(0, .ref (ad a0)), (1, .int l1), (2, .int v.1)] → W p l e (rmK 3 61) s m args below meth c H locs 0 0 (MQ below (cV D ay kM NM ad σ0) args s 0 0 (aN NM ad)) (F0 m 12 ls [])) (hr : ∀ x, o = .inr (x) → x = σ0) : ∀ (k : Nat) (v : hSt), lp (S_X12_expression_23 a0 l1) k v = some o → ∀ (H : Heap) (locs : List Loc) (ls : Array Slot), Wd D ay kM NM ad (aN NM ad) s v H locs → lv_has ls 3 [(0, .ref (ad a0)), (1, .int l1)] → W p l e (rmK 3 61) s m args below meth c H locs 0 0 (MQ below (cV D ay kM NM ad σ0) args s 0 0 (aN NM ad)) (F0 m 23 ls []) := by
  intro k
  induction k with
  | zero => intro v hf; cases hf
  | succ k ih =>
    intro v hf H locs ls w hl
    obtain ⟨o1, h1, h2, h3⟩ := lp_some hf
    exact B_X12_expression_23b a0 l1 v G hm ok_a0 h1 (fun v' e => hb0 v' (h3 _ e).symm) (fun v' e => ih v' (h2 v' e)) (fun x e => hr x (h3 _ e).symm) w hl
set_option maxRecDepth 100000 in
set_option maxHeartbeats 4000000 in
theorem B_X12_expression_23 {H : Heap} {locs : List Loc} {ls : Array Slot} {σ0 : hSt} {o : (Int32 × hSt) ⊕ (hSt)} (a0 : Nat) (l1 : Int32) (σ : hSt) (G : Gx p m c cX12_expression 3 s args RX12 D ay NM ad (aN NM ad)) (hm : meth.sig.returnType = none ∧ meth.locks = false) (ok_a0 : okr kM NM 12 a0 = true) (hf : F_X12_expression_23 a0 l1 σ = some o) (hb0 : ∀ (v : Int32 × hSt), o = .inl v → ∀ (H : Heap) (locs : List Loc) (ls : Array Slot), Wd D ay kM NM ad (aN NM ad) s v.2 H locs → lv_has ls 3 [(0, .ref (ad a0)), (1, .int l1), (2, .int v.1)] → W p l e (rmK 3 61) s m args below meth c H locs 0 0 (MQ below (cV D ay kM NM ad σ0) args s 0 0 (aN NM ad)) (F0 m 12 ls [])) (hr : ∀ x, o = .inr (x) → x = σ0) (w : Wd D ay kM NM ad (aN NM ad) s σ H locs) (hl : lv_has ls 3 [(0, .ref (ad a0)), (1, .int l1)]) : W p l e (rmK 3 61) s m args below meth c H locs 0 0 (MQ below (cV D ay kM NM ad σ0) args s 0 0 (aN NM ad)) (F0 m 23 ls []) := by
  unfold F_X12_expression_23 at hf
  exact H_X12_expression_23 a0 l1  G hm ok_a0 hb0 hr fuel (σ) hf _ _ _ w hl
set_option maxRecDepth 100000 in
set_option maxHeartbeats 4000000 in
theorem B_X12_expression_272 {H : Heap} {locs : List Loc} {ls : Array Slot} {σ0 : hSt}  (σ : hSt) (G : Gx p m c cX12_expression 3 s args RX12 D ay NM ad (aN NM ad)) (hm : meth.sig.returnType = none ∧ meth.locks = false)  (hf : F_X12_expression_272  σ = some σ0)  (w : Wd D ay kM NM ad (aN NM ad) s σ H locs) (hl : lv_has ls 3 []) : W p l e (rmK 3 61) s m args below meth c H locs 0 0 (MQ below (cV D ay kM NM ad σ0) args s 0 0 (aN NM ad)) (F0 m 272 ls []) := by
  unfold F_X12_expression_272 at hf
  have e9 := Option.some.inj hf
  exact r_vret G w hm e9 (dcs_get dec_X12_expression_3 22 rfl)
set_option maxRecDepth 100000 in
set_option maxHeartbeats 4000000 in
theorem B_X12_expression_12b {H : Heap} {locs : List Loc} {ls : Array Slot} {σ0 : hSt} {o : (Int32 × hSt) ⊕ (hSt)} (a0 : Nat) (l1 : Int32) (l2 : Int32) (σ : hSt) (G : Gx p m c cX12_expression 3 s args RX12 D ay NM ad (aN NM ad)) (hm : meth.sig.returnType = none ∧ meth.locks = false) (ok_a0 : okr kM NM 12 a0 = true) (hf : F_X12_expression_12b a0 l1 l2 σ = some o) (hb0 : ∀ (v : Int32 × hSt), o = .inl v → ∀ (H : Heap) (locs : List Loc) (ls : Array Slot), Wd D ay kM NM ad (aN NM ad) s v.2 H locs → lv_has ls 3 [(0, .ref (ad a0)), (1, .int l1), (2, .int v.1)] → W p l e (rmK 3 61) s m args below meth c H locs 0 0 (MQ below (cV D ay kM NM ad σ0) args s 0 0 (aN NM ad)) (F0 m 12 ls [])) (hr : ∀ x, o = .inr (x) → x = σ0) (w : Wd D ay kM NM ad (aN NM ad) s σ H locs) (hl : lv_has ls 3 [(0, .ref (ad a0)), (1, .int l1), (2, .int l2)]) : W p l e (rmK 3 61) s m args below meth c H locs 0 0 (MQ below (cV D ay kM NM ad σ0) args s 0 0 (aN NM ad)) (F0 m 12 ls []) := by
  have k_a0 := okr_in ok_a0
  unfold F_X12_expression_12b at hf
  refine lv_iload_n G.hx G.hb (dcs_get dec_X12_expression_0 8 rfl) rfl (lv_at hl 2 rfl) ?_
  refine lv_if_eq (tgt := 272) G.hx G.hb (dcs_get dec_X12_expression_0 9 rfl) (by decide) (fun hc => ?_) (fun hc => ?_)
  · rw [if_pos hc] at hf
    obtain ⟨x9, h9, e9⟩ := map_some_inv hf
    subst e9
    have e8 := hr _ rfl
    rw [e8] at h9
    exact B_X12_expression_272  σ G hm  h9 w (lv_sub hl [] rfl)
  · rw [if_neg hc] at hf
    refine lv_aload_n G.hx G.hb (dcs_get dec_X12_expression_0 10 rfl) rfl (lv_at hl 0 rfl) ?_
    refine r_geti (k := 13) cls12 fi_12_13.1 fi_12_13.2 q_1021 G w k_a0.1 k_a0.2 (dcs_get dec_X12_expression_0 11 rfl) ?_
    refine lv_if_ne (tgt := 272) G.hx G.hb (dcs_get dec_X12_expression_0 12 rfl) (by decide) (fun hc => ?_) (fun hc => ?_)
    · rw [if_neg hc] at hf
      obtain ⟨x9, h9, e9⟩ := map_some_inv hf
      subst e9
      have e8 := hr _ rfl
      rw [e8] at h9
      exact B_X12_expression_272  σ G hm  h9 w (lv_sub hl [] rfl)
    · rw [if_pos hc] at hf
      exact B_X12_expression_23 a0 l1 σ G hm ok_a0 hf hb0 hr w (lv_sub hl [0, 1] rfl)
set_option maxRecDepth 100000 in
set_option maxHeartbeats 4000000 in
theorem H_X12_expression_12 {σ0 : hSt} (a0 : Nat) (l1 : Int32) (G : Gx p m c cX12_expression 3 s args RX12 D ay NM ad (aN NM ad)) (hm : meth.sig.returnType = none ∧ meth.locks = false) (ok_a0 : okr kM NM 12 a0 = true)  : ∀ (k : Nat) (v : Int32 × hSt), lp (S_X12_expression_12 a0 l1) k v = some σ0 → ∀ (H : Heap) (locs : List Loc) (ls : Array Slot), Wd D ay kM NM ad (aN NM ad) s v.2 H locs → lv_has ls 3 [(0, .ref (ad a0)), (1, .int l1), (2, .int v.1)] → W p l e (rmK 3 61) s m args below meth c H locs 0 0 (MQ below (cV D ay kM NM ad σ0) args s 0 0 (aN NM ad)) (F0 m 12 ls []) := by
  intro k
  induction k with
  | zero => intro v hf; cases hf
  | succ k ih =>
    intro v hf H locs ls w hl
    obtain ⟨o1, h1, h2, h3⟩ := lp_some hf
    exact B_X12_expression_12b a0 l1 v.1 v.2 G hm ok_a0 h1  (fun v' e => ih v' (h2 v' e)) (fun x e => h3 x e) w hl
set_option maxRecDepth 100000 in
set_option maxHeartbeats 4000000 in
theorem B_X12_expression_12 {H : Heap} {locs : List Loc} {ls : Array Slot} {σ0 : hSt} (a0 : Nat) (l1 : Int32) (l2 : Int32) (σ : hSt) (G : Gx p m c cX12_expression 3 s args RX12 D ay NM ad (aN NM ad)) (hm : meth.sig.returnType = none ∧ meth.locks = false) (ok_a0 : okr kM NM 12 a0 = true) (hf : F_X12_expression_12 a0 l1 l2 σ = some σ0)  (w : Wd D ay kM NM ad (aN NM ad) s σ H locs) (hl : lv_has ls 3 [(0, .ref (ad a0)), (1, .int l1), (2, .int l2)]) : W p l e (rmK 3 61) s m args below meth c H locs 0 0 (MQ below (cV D ay kM NM ad σ0) args s 0 0 (aN NM ad)) (F0 m 12 ls []) := by
  unfold F_X12_expression_12 at hf
  exact H_X12_expression_12 a0 l1  G hm ok_a0  fuel (l2, σ) hf _ _ _ w hl
set_option maxRecDepth 100000 in
set_option maxHeartbeats 4000000 in
theorem B_X12_expression_0 {H : Heap} {locs : List Loc} {ls : Array Slot} {σ0 : hSt} (a0 : Nat) (σ : hSt) (G : Gx p m c cX12_expression 3 s args RX12 D ay NM ad (aN NM ad)) (hm : meth.sig.returnType = none ∧ meth.locks = false) (ok_a0 : okr kM NM 12 a0 = true) (hf : F_X12_expression a0 σ = some σ0)  (w : Wd D ay kM NM ad (aN NM ad) s σ H locs) (hl : lv_has ls 3 [(0, .ref (ad a0))]) : W p l e (rmK 3 61) s m args below meth c H locs 0 0 (MQ below (cV D ay kM NM ad σ0) args s 0 0 (aN NM ad)) (F0 m 0 ls []) := by
  have k_a0 := okr_in ok_a0
  unfold F_X12_expression at hf
  refine lv_aload_n G.hx G.hb (dcs_get dec_X12_expression_0 0 rfl) rfl (lv_at hl 0 rfl) ?_
  refine lv_iconst (v := (0 : Int32)) G.hx G.hb (dcs_get dec_X12_expression_0 1 rfl) (by decide) ?_
  obtain ⟨σ48, e_σ48, hf⟩ := cL_some hf
  refine r_puti (k := 48) cls12 ct12 fi_12_48.1 fi_12_48.2 fp_12_48.1 fp_12_48.2 q_1056 rfl rfl G w k_a0.1 k_a0.2 (dcs_get dec_X12_expression_0 2 rfl) (fun H locs w => ?_)
  have w := Wd.nm e_σ48 w
  refine lv_aload_n G.hx G.hb (dcs_get dec_X12_expression_0 3 rfl) rfl (lv_at hl 0 rfl) ?_
  refine r_geti (k := 12) cls12 fi_12_12.1 fi_12_12.2 q_1020 G w k_a0.1 k_a0.2 (dcs_get dec_X12_expression_0 4 rfl) ?_
  obtain ⟨v49, e_v49, hf⟩ := cL_some hf
  refine r_topi e_v49 ?_
  refine lv_istore_n (lv' := [(1, .int v49), (0, .ref (ad a0))]) G.hx G.hb (dcs_get dec_X12_expression_0 5 rfl) rfl hl (by decide) rfl (fun ls hl => ?_)
  refine lv_iconst (v := (1 : Int32)) G.hx G.hb (dcs_get dec_X12_expression_0 6 rfl) (by decide) ?_
  refine lv_istore_n (lv' := [(2, .int (1 : Int32)), (1, .int v49), (0, .ref (ad a0))]) G.hx G.hb (dcs_get dec_X12_expression_0 7 rfl) rfl hl (by decide) rfl (fun ls hl => ?_)
  exact B_X12_expression_12 a0 v49 (1 : Int32) σ48 G hm ok_a0 hf  w (lv_sub hl [2, 1, 0] rfl)
end
set_option maxRecDepth 100000 in
set_option maxHeartbeats 4000000 in
theorem C_X12_expression {l : Launch} {D : va_G} {ay : Nat → ClassId} {ad : Nat → Nat} (hi : hInj NM ad) (a0 : Nat) (σ : hSt) {σ0 : hSt} (hf : F_X12_expression a0 σ = some σ0) (ok_a0 : okr kM NM 12 a0 = true) : hM l D ay kM NM ad yX12_expression cX12_expression 3 (none) (rmK 3 61) [.ref (ad a0)] σ (cV D ay kM NM ad σ0) := by
  refine hM_in (by decide) hi (Nat.le_of_ble_eq_true rfl) ?_
  intro p e s m below meth c G hm w ls hl
  exact B_X12_expression_0 a0 σ G hm ok_a0 hf w (lv_sub hl [0] rfl)

/-! HillDrumsModel.term()V -/
def DL_X12_term_0 : List (Nat × Instr × Nat) := [(0, .aload_n 0, 1), (1, .getfield 101, 3), (4, .aload_n 0, 1), (5, .getfield 245, 3), (8, .aload_n 0, 1), (9, .getfield 248, 3), (12, .iastore, 1), (13, .aload_n 0, 1), (14, .getfield 206, 3), (17, .ifCond .ne 7, 3), (20, .aload_n 0, 1), (21, .invokevirtual 300, 3), (24, .aload_n 0, 1), (25, .getfield 104, 3), (28, .aload_n 0, 1), (29, .getfield 245, 3), (32, .aload_n 0, 1), (33, .getfield 248, 3), (36, .iastore, 1), (37, .aload_n 0, 1), (38, .dup, 1), (39, .getfield 245, 3), (42, .iconst 1, 1), (43, .iadd, 1), (44, .putfield 245, 3), (47, .return_, 1)]
set_option maxRecDepth 100000 in
theorem dec_X12_term_0 : dcs cX12_term DL_X12_term_0 = true := by decide +kernel
theorem lb_X12_term : lkB yX12_term cX12_term 1 (none) 0 := ⟨q_1329, q_14, ⟨by decide, by decide⟩, by decide +kernel⟩
theorem lv_X12_term : lkV yX12_term := ⟨q_1328, qs_90⟩
def F_X12_term_24 (a0 : Nat) (σ : hSt) : Option (hSt) :=
cR (σ.2.2 a0 43) (okr kM NM 101) fun z1 =>
cG (inb (σ.1 a0 38) (kM z1).2) <|
cL (uI σ z1 (σ.1 a0 38).toNatClampNeg (σ.1 a0 44)) fun σ3 =>
cL (uI σ3 a0 38 ((σ3.1 a0 38) + (1 : Int32))) fun σ4 =>
some (σ4)
def F_X12_term (a0 : Nat) (σ : hSt) : Option (hSt) :=
cR (σ.2.2 a0 42) (okr kM NM 101) fun z5 =>
cG (inb (σ.1 a0 38) (kM z5).2) <|
cL (uI σ z5 (σ.1 a0 38).toNatClampNeg (σ.1 a0 44)) fun σ7 =>
if (σ7.1 a0 13) = 0 then (
(F_X12_expression a0 σ7).bind fun σ9 =>
F_X12_term_24 a0 σ9) else (
F_X12_term_24 a0 σ7)
section
variable {p : Program} {l : Launch} {e : Env} {s : State} {m : MethodId} {args : Array Value} {below : List Frame} {meth : Method} {c : Code} {D : va_G} {ay : Nat → ClassId} {ad : Nat → Nat}
set_option maxRecDepth 100000 in
set_option maxHeartbeats 4000000 in
theorem B_X12_term_24 {H : Heap} {locs : List Loc} {ls : Array Slot} {σ0 : hSt} (a0 : Nat) (σ : hSt) (G : Gx p m c cX12_term 1 s args RX12 D ay NM ad (aN NM ad)) (hm : meth.sig.returnType = none ∧ meth.locks = false) (ok_a0 : okr kM NM 12 a0 = true) (hf : F_X12_term_24 a0 σ = some σ0)  (w : Wd D ay kM NM ad (aN NM ad) s σ H locs) (hl : lv_has ls 1 [(0, .ref (ad a0))]) : W p l e (rmK 4 83) s m args below meth c H locs 0 0 (MQ below (cV D ay kM NM ad σ0) args s 0 0 (aN NM ad)) (F0 m 24 ls []) := by
  have k_a0 := okr_in ok_a0
  unfold F_X12_term_24 at hf
  refine lv_aload_n G.hx G.hb (dcs_get dec_X12_term_0 12 rfl) rfl (lv_at hl 0 rfl) ?_
  obtain ⟨z1, e_z1, ok_z1, hf⟩ := cR_some hf
  have k_z1 := okr_in ok_z1
  refine r_getr (k := 43) cls12 fi_12_43.1 fi_12_43.2 q_1051 G w k_a0.1 k_a0.2 e_z1 (dcs_get dec_X12_term_0 13 rfl) ?_
  refine lv_aload_n G.hx G.hb (dcs_get dec_X12_term_0 14 rfl) rfl (lv_at hl 0 rfl) ?_
  refine r_geti (k := 38) cls12 fi_12_38.1 fi_12_38.2 q_1046 G w k_a0.1 k_a0.2 (dcs_get dec_X12_term_0 15 rfl) ?_
  refine lv_aload_n G.hx G.hb (dcs_get dec_X12_term_0 16 rfl) rfl (lv_at hl 0 rfl) ?_
  refine r_geti (k := 44) cls12 fi_12_44.1 fi_12_44.2 q_1052 G w k_a0.1 k_a0.2 (dcs_get dec_X12_term_0 17 rfl) ?_
  obtain ⟨h2, hf⟩ := cG_some hf
  obtain ⟨σ3, e_σ3, hf⟩ := cL_some hf
  refine r_iast G w k_z1.1 k_z1.2 h2 (dcs_get dec_X12_term_0 18 rfl) (fun H locs w => ?_)
  have w := Wd.nm e_σ3 w
  refine lv_aload_n G.hx G.hb (dcs_get dec_X12_term_0 19 rfl) rfl (lv_at hl 0 rfl) ?_
  refine lv_dup G.hx G.hb (dcs_get dec_X12_term_0 20 rfl) rfl ?_
  refine r_geti (k := 38) cls12 fi_12_38.1 fi_12_38.2 q_1046 G w k_a0.1 k_a0.2 (dcs_get dec_X12_term_0 21 rfl) ?_
  refine lv_iconst (v := (1 : Int32)) G.hx G.hb (dcs_get dec_X12_term_0 22 rfl) (by decide) ?_
  refine lv_iadd G.hx G.hb (dcs_get dec_X12_term_0 23 rfl) ?_
  obtain ⟨σ4, e_σ4, hf⟩ := cL_some hf
  refine r_puti (k := 38) cls12 ct12 fi_12_38.1 fi_12_38.2 fp_12_38.1 fp_12_38.2 q_1046 rfl rfl G w k_a0.1 k_a0.2 (dcs_get dec_X12_term_0 24 rfl) (fun H locs w => ?_)
  have w := Wd.nm e_σ4 w
  have e9 := Option.some.inj hf
  exact r_vret G w hm e9 (dcs_get dec_X12_term_0 25 rfl)
set_option maxRecDepth 100000 in
set_option maxHeartbeats 4000000 in
theorem B_X12_term_0 {H : Heap} {locs : List Loc} {ls : Array Slot} {σ0 : hSt} (a0 : Nat) (σ : hSt) (G : Gx p m c cX12_term 1 s args RX12 D ay NM ad (aN NM ad)) (hm : meth.sig.returnType = none ∧ meth.locks = false) (ok_a0 : okr kM NM 12 a0 = true) (hf : F_X12_term a0 σ = some σ0)  (w : Wd D ay kM NM ad (aN NM ad) s σ H locs) (hl : lv_has ls 1 [(0, .ref (ad a0))]) : W p l e (rmK 4 83) s m args below meth c H locs 0 0 (MQ below (cV D ay kM NM ad σ0) args s 0 0 (aN NM ad)) (F0 m 0 ls []) := by
  have k_a0 := okr_in ok_a0
  unfold F_X12_term at hf
  refine lv_aload_n G.hx G.hb (dcs_get dec_X12_term_0 0 rfl) rfl (lv_at hl 0 rfl) ?_
  obtain ⟨z5, e_z5, ok_z5, hf⟩ := cR_some hf
  have k_z5 := okr_in ok_z5
  refine r_getr (k := 42) cls12 fi_12_42.1 fi_12_42.2 q_1050 G w k_a0.1 k_a0.2 e_z5 (dcs_get dec_X12_term_0 1 rfl) ?_
  refine lv_aload_n G.hx G.hb (dcs_get dec_X12_term_0 2 rfl) rfl (lv_at hl 0 rfl) ?_
  refine r_geti (k := 38) cls12 fi_12_38.1 fi_12_38.2 q_1046 G w k_a0.1 k_a0.2 (dcs_get dec_X12_term_0 3 rfl) ?_
  refine lv_aload_n G.hx G.hb (dcs_get dec_X12_term_0 4 rfl) rfl (lv_at hl 0 rfl) ?_
  refine r_geti (k := 44) cls12 fi_12_44.1 fi_12_44.2 q_1052 G w k_a0.1 k_a0.2 (dcs_get dec_X12_term_0 5 rfl) ?_
  obtain ⟨h6, hf⟩ := cG_some hf
  obtain ⟨σ7, e_σ7, hf⟩ := cL_some hf
  refine r_iast G w k_z5.1 k_z5.2 h6 (dcs_get dec_X12_term_0 6 rfl) (fun H locs w => ?_)
  have w := Wd.nm e_σ7 w
  refine lv_aload_n G.hx G.hb (dcs_get dec_X12_term_0 7 rfl) rfl (lv_at hl 0 rfl) ?_
  refine r_geti (k := 13) cls12 fi_12_13.1 fi_12_13.2 q_1021 G w k_a0.1 k_a0.2 (dcs_get dec_X12_term_0 8 rfl) ?_
  refine lv_if_ne (tgt := 24) G.hx G.hb (dcs_get dec_X12_term_0 9 rfl) (by decide) (fun hc => ?_) (fun hc => ?_)
  · rw [if_neg hc] at hf
    exact B_X12_term_24 a0 σ7 G hm ok_a0 hf  w (lv_sub hl [0] rfl)
  · rw [if_pos hc] at hf
    refine lv_aload_n G.hx G.hb (dcs_get dec_X12_term_0 10 rfl) rfl (lv_at hl 0 rfl) ?_
    obtain ⟨σ9, h8, hf⟩ := cB_some hf
    refine a_v (k_V (As := []) (rest := []) cls12 lb_X12_expression lv_X12_expression q_1310 (C_X12_expression G.2.2.1 a0 σ7 h8 ok_a0) ⟨(Nat.le_of_ble_eq_true rfl), (Nat.le_of_ble_eq_true rfl)⟩ G w k_a0.1 k_a0.2 rfl rfl hl.1 (Nat.le_of_ble_eq_true rfl) (dcs_get dec_X12_term_0 11 rfl) ⟨Nat.le_refl _, Nat.le_refl _⟩) G w (fun H locs w => ?_)
    exact B_X12_term_24 a0 σ9 G hm ok_a0 hf  w (lv_sub hl [0] rfl)
end
set_option maxRecDepth 100000 in
set_option maxHeartbeats 4000000 in
theorem C_X12_term {l : Launch} {D : va_G} {ay : Nat → ClassId} {ad : Nat → Nat} (hi : hInj NM ad) (a0 : Nat) (σ : hSt) {σ0 : hSt} (hf : F_X12_term a0 σ = some σ0) (ok_a0 : okr kM NM 12 a0 = true) : hM l D ay kM NM ad yX12_term cX12_term 1 (none) (rmK 4 83) [.ref (ad a0)] σ (cV D ay kM NM ad σ0) := by
  refine hM_in (by decide) hi (Nat.le_of_ble_eq_true rfl) ?_
  intro p e s m below meth c G hm w ls hl
  exact B_X12_term_0 a0 σ G hm ok_a0 hf w (lv_sub hl [0] rfl)

/-! HillDrumsModel.tellLaw()V -/
def DL_X12_tellLaw_0 : List (Nat × Instr × Nat) := [(0, .aload_n 0, 1), (1, .getfield 245, 3), (4, .istore_n 1, 1), (5, .iconst 0, 1), (6, .istore_n 2, 1), (7, .aload_n 0, 1), (8, .getfield 206, 3), (11, .ifCond .ne 113, 3), (14, .aload_n 0, 1), (15, .bipush 32, 2), (17, .invokevirtual 224, 3), (20, .ifCond .eq 104, 3), (23, .iload_n 2, 1), (24, .iconst 4, 1), (25, .if_icmp .ne 8, 3), (28, .aload_n 0, 1), (29, .iconst 2, 1), (30, .invokevirtual 221, 3), (33, .aload_n 0, 1), (34, .getfield 206, 3), (37, .ifCond .le 4, 3), (40, .return_, 1), (41, .iinc 2 1, 3), (44, .aload_n 0, 1), (45, .invokevirtual 227, 3), (48, .aload_n 0, 1), (49, .getfield 91, 3), (52, .aload_n 0, 1), (53, .getfield 245, 3), (56, .iconst 1, 1), (57, .bastore, 1), (58, .aload_n 0, 1), (59, .getfield 95, 3), (62, .aload_n 0, 1), (63, .getfield 245, 3), (66, .aload_n 0, 1), (67, .getfield 248, 3), (70, .iastore, 1), (71, .aload_n 0, 1), (72, .invokevirtual 300, 3)]
set_option maxRecDepth 100000 in
theorem dec_X12_tellLaw_0 : dcs cX12_tellLaw DL_X12_tellLaw_0 = true := by decide +kernel
def DL_X12_tellLaw_1 : List (Nat × Instr × Nat) := [(75, .aload_n 0, 1), (76, .bipush 13, 2), (78, .invokevirtual 270, 3), (81, .aload_n 0, 1), (82, .getfield 98, 3), (85, .aload_n 0, 1), (86, .getfield 245, 3), (89, .aload_n 0, 1), (90, .getfield 248, 3), (93, .iastore, 1), (94, .aload_n 0, 1), (95, .getfield 206, 3), (98, .ifCond .ne 7, 3), (101, .aload_n 0, 1), (102, .invokevirtual 300, 3), (105, .aload_n 0, 1), (106, .bipush 33, 2), (108, .invokevirtual 270, 3), (111, .aload_n 0, 1), (112, .invokevirtual 303, 3), (115, .aload_n 0, 1), (116, .bipush 34, 2), (118, .invokevirtual 270, 3), (121, .goto (-114), 3), (124, .aload_n 0, 1), (125, .getfield 91, 3), (128, .aload_n 0, 1), (129, .getfield 245, 3), (132, .iconst 0, 1), (133, .bastore, 1), (134, .aload_n 0, 1), (135, .invokevirtual 303, 3), (138, .aload_n 0, 1), (139, .iconst 4, 1), (140, .invokevirtual 270, 3), (143, .aload_n 0, 1), (144, .getfield 206, 3), (147, .ifCond .le 4, 3), (150, .return_, 1), (151, .aload_n 0, 1)]
set_option maxRecDepth 100000 in
theorem dec_X12_tellLaw_1 : dcs cX12_tellLaw DL_X12_tellLaw_1 = true := by decide +kernel
def DL_X12_tellLaw_2 : List (Nat × Instr × Nat) := [(152, .getfield 85, 3), (155, .aload_n 0, 1), (156, .getfield 239, 3), (159, .iload_n 1, 1), (160, .iastore, 1), (161, .aload_n 0, 1), (162, .getfield 88, 3), (165, .aload_n 0, 1), (166, .getfield 239, 3), (169, .aload_n 0, 1), (170, .getfield 245, 3), (173, .iastore, 1), (174, .return_, 1)]
set_option maxRecDepth 100000 in
theorem dec_X12_tellLaw_2 : dcs cX12_tellLaw DL_X12_tellLaw_2 = true := by decide +kernel
theorem lb_X12_tellLaw : lkB yX12_tellLaw cX12_tellLaw 3 (none) 0 := ⟨q_1309, q_14, ⟨by decide, by decide⟩, by decide +kernel⟩
theorem lv_X12_tellLaw : lkV yX12_tellLaw := ⟨q_1308, qs_85⟩
def F_X12_tellLaw_105 (a0 : Nat) (l1 : Int32) (l2 : Int32) (σ : hSt) : Option ((Int32 × hSt) ⊕ (hSt)) :=
(F_X12_must a0 (33 : Int32) σ).bind fun σ2 =>
(F_X12_term a0 σ2).bind fun σ4 =>
(F_X12_must a0 (34 : Int32) σ4).bind fun σ6 =>
some (.inl (l2, σ6))
def F_X12_tellLaw_33 (a0 : Nat) (l1 : Int32) (l2 : Int32) (σ : hSt) : Option ((Int32 × hSt) ⊕ (hSt)) :=
if (σ.1 a0 13) ≤ 0 then (
cL (l2 + (1 : Int32)) fun v7 =>
(F_X12_goesOn a0 σ).bind fun σ9 =>
cR (σ9.2.2 a0 39) (okr kM NM 102) fun z10 =>
cG (inb (σ9.1 a0 38) (kM z10).2) <|
cL (uI σ9 z10 (σ9.1 a0 38).toNatClampNeg (vp_nar .boolean (1 : Int32))) fun σ12 =>
cR (σ12.2.2 a0 40) (okr kM NM 101) fun z13 =>
cG (inb (σ12.1 a0 38) (kM z13).2) <|
cL (uI σ12 z13 (σ12.1 a0 38).toNatClampNeg (σ12.1 a0 44)) fun σ15 =>
(F_X12_expression a0 σ15).bind fun σ17 =>
(F_X12_must a0 (13 : Int32) σ17).bind fun σ19 =>
cR (σ19.2.2 a0 41) (okr kM NM 101) fun z20 =>
cG (inb (σ19.1 a0 38) (kM z20).2) <|
cL (uI σ19 z20 (σ19.1 a0 38).toNatClampNeg (σ19.1 a0 44)) fun σ22 =>
if (σ22.1 a0 13) = 0 then (
(F_X12_expression a0 σ22).bind fun σ24 =>
F_X12_tellLaw_105 a0 l1 v7 σ24) else (
F_X12_tellLaw_105 a0 l1 v7 σ22)) else (
some (.inr (σ)))
def F_X12_tellLaw_124 (a0 : Nat) (l1 : Int32) (σ : hSt) : Option (hSt) :=
cR (σ.2.2 a0 39) (okr kM NM 102) fun z25 =>
cG (inb (σ.1 a0 38) (kM z25).2) <|
cL (uI σ z25 (σ.1 a0 38).toNatClampNeg (vp_nar .boolean (0 : Int32))) fun σ27 =>
(F_X12_term a0 σ27).bind fun σ29 =>
(F_X12_must a0 (4 : Int32) σ29).bind fun σ31 =>
if (σ31.1 a0 13) ≤ 0 then (
cR (σ31.2.2 a0 36) (okr kM NM 101) fun z32 =>
cG (inb (σ31.1 a0 19) (kM z32).2) <|
cL (uI σ31 z32 (σ31.1 a0 19).toNatClampNeg l1) fun σ34 =>
cR (σ34.2.2 a0 37) (okr kM NM 101) fun z35 =>
cG (inb (σ34.1 a0 19) (kM z35).2) <|
cL (uI σ34 z35 (σ34.1 a0 19).toNatClampNeg (σ34.1 a0 38)) fun σ37 =>
some (σ37)) else (
some (σ31))
def F_X12_tellLaw_7b (a0 : Nat) (l1 : Int32) (l2 : Int32) (σ : hSt) : Option ((Int32 × hSt) ⊕ (hSt)) :=
if (σ.1 a0 13) = 0 then (
(F_X12_is a0 (32 : Int32) σ).bind fun v39 =>
if v39 = 0 then (
(F_X12_tellLaw_124 a0 l1 σ).map (fun x => .inr (x))) else (
if l2 = (4 : Int32) then (
(F_X12_fail a0 (2 : Int32) σ).bind fun σ41 =>
F_X12_tellLaw_33 a0 l1 l2 σ41) else (
F_X12_tellLaw_33 a0 l1 l2 σ))) else (
(F_X12_tellLaw_124 a0 l1 σ).map (fun x => .inr (x)))
def S_X12_tellLaw_7 (a0 : Nat) (l1 : Int32) (v : Int32 × hSt) : Option ((Int32 × hSt) ⊕ (hSt)) := F_X12_tellLaw_7b a0 l1 v.1 v.2
def F_X12_tellLaw_7 (a0 : Nat) (l1 : Int32) (l2 : Int32) (σ : hSt) : Option (hSt) := lp (S_X12_tellLaw_7 a0 l1) fuel (l2, σ)
def F_X12_tellLaw (a0 : Nat) (σ : hSt) : Option (hSt) :=
cL (σ.1 a0 38) fun v42 =>
F_X12_tellLaw_7 a0 v42 (0 : Int32) σ
section
variable {p : Program} {l : Launch} {e : Env} {s : State} {m : MethodId} {args : Array Value} {below : List Frame} {meth : Method} {c : Code} {D : va_G} {ay : Nat → ClassId} {ad : Nat → Nat}
set_option maxRecDepth 100000 in
set_option maxHeartbeats 4000000 in
theorem B_X12_tellLaw_105 {H : Heap} {locs : List Loc} {ls : Array Slot} {σ0 : hSt} {o : (Int32 × hSt) ⊕ (hSt)} (a0 : Nat) (l1 : Int32) (l2 : Int32) (σ : hSt) (G : Gx p m c cX12_tellLaw 3 s args RX12 D ay NM ad (aN NM ad)) (hm : meth.sig.returnType = none ∧ meth.locks = false) (ok_a0 : okr kM NM 12 a0 = true) (hf : F_X12_tellLaw_105 a0 l1 l2 σ = some o) (hb0 : ∀ (v : Int32 × hSt), o = .inl v → ∀ (H : Heap) (locs : List Loc) (ls : Array Slot), Wd D ay kM NM ad (aN NM ad) s v.2 H locs → lv_has ls 3 [(0, .ref (ad a0)), (1, .int l1), (2, .int v.1)] → W p l e (rmK 5 103) s m args below meth c H locs 0 0 (MQ below (cV D ay kM NM ad σ0) args s 0 0 (aN NM ad)) (F0 m 7 ls [])) (hr : ∀ x, o = .inr (x) → x = σ0) (w : Wd D ay kM NM ad (aN NM ad) s σ H locs) (hl : lv_has ls 3 [(0, .ref (ad a0)), (1, .int l1), (2, .int l2)]) : W p l e (rmK 5 103) s m args below meth c H locs 0 0 (MQ below (cV D ay kM NM ad σ0) args s 0 0 (aN NM ad)) (F0 m 105 ls []) := by
  have k_a0 := okr_in ok_a0
  unfold F_X12_tellLaw_105 at hf
  refine lv_aload_n G.hx G.hb (dcs_get dec_X12_tellLaw_1 15 rfl) rfl (lv_at hl 0 rfl) ?_
  refine lv_bipush (v := (33 : Int32)) G.hx G.hb (dcs_get dec_X12_tellLaw_1 16 rfl) (by decide) ?_
  obtain ⟨σ2, h1, hf⟩ := cB_some hf
  refine a_v (k_V (As := [.int (33 : Int32)]) (rest := []) cls12 lb_X12_must lv_X12_must q_1282 (C_X12_must G.2.2.1 a0 (33 : Int32) σ h1 ok_a0) ⟨(Nat.le_of_ble_eq_true rfl), (Nat.le_of_ble_eq_true rfl)⟩ G w k_a0.1 k_a0.2 rfl rfl hl.1 (Nat.le_of_ble_eq_true rfl) (dcs_get dec_X12_tellLaw_1 17 rfl) ⟨Nat.le_refl _, Nat.le_refl _⟩) G w (fun H locs w => ?_)
  refine lv_aload_n G.hx G.hb (dcs_get dec_X12_tellLaw_1 18 rfl) rfl (lv_at hl 0 rfl) ?_
  obtain ⟨σ4, h3, hf⟩ := cB_some hf
  refine a_v (k_V (As := []) (rest := []) cls12 lb_X12_term lv_X12_term q_1326 (C_X12_term G.2.2.1 a0 σ2 h3 ok_a0) ⟨(Nat.le_of_ble_eq_true rfl), (Nat.le_of_ble_eq_true rfl)⟩ G w k_a0.1 k_a0.2 rfl rfl hl.1 (Nat.le_of_ble_eq_true rfl) (dcs_get dec_X12_tellLaw_1 19 rfl) ⟨Nat.le_refl _, Nat.le_refl _⟩) G w (fun H locs w => ?_)
  refine lv_aload_n G.hx G.hb (dcs_get dec_X12_tellLaw_1 20 rfl) rfl (lv_at hl 0 rfl) ?_
  refine lv_bipush (v := (34 : Int32)) G.hx G.hb (dcs_get dec_X12_tellLaw_1 21 rfl) (by decide) ?_
  obtain ⟨σ6, h5, hf⟩ := cB_some hf
  refine a_v (k_V (As := [.int (34 : Int32)]) (rest := []) cls12 lb_X12_must lv_X12_must q_1282 (C_X12_must G.2.2.1 a0 (34 : Int32) σ4 h5 ok_a0) ⟨(Nat.le_of_ble_eq_true rfl), (Nat.le_of_ble_eq_true rfl)⟩ G w k_a0.1 k_a0.2 rfl rfl hl.1 (Nat.le_of_ble_eq_true rfl) (dcs_get dec_X12_tellLaw_1 22 rfl) ⟨Nat.le_refl _, Nat.le_refl _⟩) G w (fun H locs w => ?_)
  refine lv_goto (tgt := 7) G.hx G.hb (dcs_get dec_X12_tellLaw_1 23 rfl) (by decide) ?_
  exact hb0 _ (Option.some.inj hf).symm _ _ _ w (lv_sub hl [0, 1, 2] rfl)
set_option maxRecDepth 100000 in
set_option maxHeartbeats 4000000 in
theorem B_X12_tellLaw_33 {H : Heap} {locs : List Loc} {ls : Array Slot} {σ0 : hSt} {o : (Int32 × hSt) ⊕ (hSt)} (a0 : Nat) (l1 : Int32) (l2 : Int32) (σ : hSt) (G : Gx p m c cX12_tellLaw 3 s args RX12 D ay NM ad (aN NM ad)) (hm : meth.sig.returnType = none ∧ meth.locks = false) (ok_a0 : okr kM NM 12 a0 = true) (hf : F_X12_tellLaw_33 a0 l1 l2 σ = some o) (hb0 : ∀ (v : Int32 × hSt), o = .inl v → ∀ (H : Heap) (locs : List Loc) (ls : Array Slot), Wd D ay kM NM ad (aN NM ad) s v.2 H locs → lv_has ls 3 [(0, .ref (ad a0)), (1, .int l1), (2, .int v.1)] → W p l e (rmK 5 103) s m args below meth c H locs 0 0 (MQ below (cV D ay kM NM ad σ0) args s 0 0 (aN NM ad)) (F0 m 7 ls [])) (hr : ∀ x, o = .inr (x) → x = σ0) (w : Wd D ay kM NM ad (aN NM ad) s σ H locs) (hl : lv_has ls 3 [(0, .ref (ad a0)), (1, .int l1), (2, .int l2)]) : W p l e (rmK 5 103) s m args below meth c H locs 0 0 (MQ below (cV D ay kM NM ad σ0) args s 0 0 (aN NM ad)) (F0 m 33 ls []) := by
  have k_a0 := okr_in ok_a0
  unfold F_X12_tellLaw_33 at hf
  refine lv_aload_n G.hx G.hb (dcs_get dec_X12_tellLaw_0 18 rfl) rfl (lv_at hl 0 rfl) ?_
  refine r_geti (k := 13) cls12 fi_12_13.1 fi_12_13.2 q_1021 G w k_a0.1 k_a0.2 (dcs_get dec_X12_tellLaw_0 19 rfl) ?_
  refine lv_if_le (tgt := 41) G.hx G.hb (dcs_get dec_X12_tellLaw_0 20 rfl) (by decide) (fun hc => ?_) (fun hc => ?_)
  · rw [if_pos hc] at hf
    obtain ⟨v7, e_v7, hf⟩ := cL_some hf
    refine lv_iinc (v := v7) (lv' := [(2, .int v7), (0, .ref (ad a0)), (1, .int l1)]) G.hx G.hb (dcs_get dec_X12_tellLaw_0 22 rfl) hl (k := 2) rfl (by rw [e_v7]; rfl) (by decide) rfl (fun ls hl => ?_)
    refine lv_aload_n G.hx G.hb (dcs_get dec_X12_tellLaw_0 23 rfl) rfl (lv_at hl 1 rfl) ?_
    obtain ⟨σ9, h8, hf⟩ := cB_some hf
    refine a_v (k_V (As := []) (rest := []) cls12 lb_X12_goesOn lv_X12_goesOn q_1270 (C_X12_goesOn G.2.2.1 a0 σ h8 ok_a0) ⟨(Nat.le_of_ble_eq_true rfl), (Nat.le_of_ble_eq_true rfl)⟩ G w k_a0.1 k_a0.2 rfl rfl hl.1 (Nat.le_of_ble_eq_true rfl) (dcs_get dec_X12_tellLaw_0 24 rfl) ⟨Nat.le_refl _, Nat.le_refl _⟩) G w (fun H locs w => ?_)
    refine lv_aload_n G.hx G.hb (dcs_get dec_X12_tellLaw_0 25 rfl) rfl (lv_at hl 1 rfl) ?_
    obtain ⟨z10, e_z10, ok_z10, hf⟩ := cR_some hf
    have k_z10 := okr_in ok_z10
    refine r_getr (k := 39) cls12 fi_12_39.1 fi_12_39.2 q_1047 G w k_a0.1 k_a0.2 e_z10 (dcs_get dec_X12_tellLaw_0 26 rfl) ?_
    refine lv_aload_n G.hx G.hb (dcs_get dec_X12_tellLaw_0 27 rfl) rfl (lv_at hl 1 rfl) ?_
    refine r_geti (k := 38) cls12 fi_12_38.1 fi_12_38.2 q_1046 G w k_a0.1 k_a0.2 (dcs_get dec_X12_tellLaw_0 28 rfl) ?_
    refine lv_iconst (v := (1 : Int32)) G.hx G.hb (dcs_get dec_X12_tellLaw_0 29 rfl) (by decide) ?_
    obtain ⟨h11, hf⟩ := cG_some hf
    obtain ⟨σ12, e_σ12, hf⟩ := cL_some hf
    refine r_zast G w k_z10.1 k_z10.2 h11 (dcs_get dec_X12_tellLaw_0 30 rfl) (fun H locs w => ?_)
    have w := Wd.nm e_σ12 w
    refine lv_aload_n G.hx G.hb (dcs_get dec_X12_tellLaw_0 31 rfl) rfl (lv_at hl 1 rfl) ?_
    obtain ⟨z13, e_z13, ok_z13, hf⟩ := cR_some hf
    have k_z13 := okr_in ok_z13
    refine r_getr (k := 40) cls12 fi_12_40.1 fi_12_40.2 q_1048 G w k_a0.1 k_a0.2 e_z13 (dcs_get dec_X12_tellLaw_0 32 rfl) ?_
    refine lv_aload_n G.hx G.hb (dcs_get dec_X12_tellLaw_0 33 rfl) rfl (lv_at hl 1 rfl) ?_
    refine r_geti (k := 38) cls12 fi_12_38.1 fi_12_38.2 q_1046 G w k_a0.1 k_a0.2 (dcs_get dec_X12_tellLaw_0 34 rfl) ?_
    refine lv_aload_n G.hx G.hb (dcs_get dec_X12_tellLaw_0 35 rfl) rfl (lv_at hl 1 rfl) ?_
    refine r_geti (k := 44) cls12 fi_12_44.1 fi_12_44.2 q_1052 G w k_a0.1 k_a0.2 (dcs_get dec_X12_tellLaw_0 36 rfl) ?_
    obtain ⟨h14, hf⟩ := cG_some hf
    obtain ⟨σ15, e_σ15, hf⟩ := cL_some hf
    refine r_iast G w k_z13.1 k_z13.2 h14 (dcs_get dec_X12_tellLaw_0 37 rfl) (fun H locs w => ?_)
    have w := Wd.nm e_σ15 w
    refine lv_aload_n G.hx G.hb (dcs_get dec_X12_tellLaw_0 38 rfl) rfl (lv_at hl 1 rfl) ?_
    obtain ⟨σ17, h16, hf⟩ := cB_some hf
    refine a_v (k_V (As := []) (rest := []) cls12 lb_X12_expression lv_X12_expression q_1310 (C_X12_expression G.2.2.1 a0 σ15 h16 ok_a0) ⟨(Nat.le_of_ble_eq_true rfl), (Nat.le_of_ble_eq_true rfl)⟩ G w k_a0.1 k_a0.2 rfl rfl hl.1 (Nat.le_of_ble_eq_true rfl) (dcs_get dec_X12_tellLaw_0 39 rfl) ⟨Nat.le_refl _, Nat.le_refl _⟩) G w (fun H locs w => ?_)
    refine lv_aload_n G.hx G.hb (dcs_get dec_X12_tellLaw_1 0 rfl) rfl (lv_at hl 1 rfl) ?_
    refine lv_bipush (v := (13 : Int32)) G.hx G.hb (dcs_get dec_X12_tellLaw_1 1 rfl) (by decide) ?_
    obtain ⟨σ19, h18, hf⟩ := cB_some hf
    refine a_v (k_V (As := [.int (13 : Int32)]) (rest := []) cls12 lb_X12_must lv_X12_must q_1282 (C_X12_must G.2.2.1 a0 (13 : Int32) σ17 h18 ok_a0) ⟨(Nat.le_of_ble_eq_true rfl), (Nat.le_of_ble_eq_true rfl)⟩ G w k_a0.1 k_a0.2 rfl rfl hl.1 (Nat.le_of_ble_eq_true rfl) (dcs_get dec_X12_tellLaw_1 2 rfl) ⟨Nat.le_refl _, Nat.le_refl _⟩) G w (fun H locs w => ?_)
    refine lv_aload_n G.hx G.hb (dcs_get dec_X12_tellLaw_1 3 rfl) rfl (lv_at hl 1 rfl) ?_
    obtain ⟨z20, e_z20, ok_z20, hf⟩ := cR_some hf
    have k_z20 := okr_in ok_z20
    refine r_getr (k := 41) cls12 fi_12_41.1 fi_12_41.2 q_1049 G w k_a0.1 k_a0.2 e_z20 (dcs_get dec_X12_tellLaw_1 4 rfl) ?_
    refine lv_aload_n G.hx G.hb (dcs_get dec_X12_tellLaw_1 5 rfl) rfl (lv_at hl 1 rfl) ?_
    refine r_geti (k := 38) cls12 fi_12_38.1 fi_12_38.2 q_1046 G w k_a0.1 k_a0.2 (dcs_get dec_X12_tellLaw_1 6 rfl) ?_
    refine lv_aload_n G.hx G.hb (dcs_get dec_X12_tellLaw_1 7 rfl) rfl (lv_at hl 1 rfl) ?_
    refine r_geti (k := 44) cls12 fi_12_44.1 fi_12_44.2 q_1052 G w k_a0.1 k_a0.2 (dcs_get dec_X12_tellLaw_1 8 rfl) ?_
    obtain ⟨h21, hf⟩ := cG_some hf
    obtain ⟨σ22, e_σ22, hf⟩ := cL_some hf
    refine r_iast G w k_z20.1 k_z20.2 h21 (dcs_get dec_X12_tellLaw_1 9 rfl) (fun H locs w => ?_)
    have w := Wd.nm e_σ22 w
    refine lv_aload_n G.hx G.hb (dcs_get dec_X12_tellLaw_1 10 rfl) rfl (lv_at hl 1 rfl) ?_
    refine r_geti (k := 13) cls12 fi_12_13.1 fi_12_13.2 q_1021 G w k_a0.1 k_a0.2 (dcs_get dec_X12_tellLaw_1 11 rfl) ?_
    refine lv_if_ne (tgt := 105) G.hx G.hb (dcs_get dec_X12_tellLaw_1 12 rfl) (by decide) (fun hc => ?_) (fun hc => ?_)
    · rw [if_neg hc] at hf
      exact B_X12_tellLaw_105 a0 l1 v7 σ22 G hm ok_a0 hf hb0 hr w (lv_sub hl [1, 2, 0] rfl)
    · rw [if_pos hc] at hf
      refine lv_aload_n G.hx G.hb (dcs_get dec_X12_tellLaw_1 13 rfl) rfl (lv_at hl 1 rfl) ?_
      obtain ⟨σ24, h23, hf⟩ := cB_some hf
      refine a_v (k_V (As := []) (rest := []) cls12 lb_X12_expression lv_X12_expression q_1310 (C_X12_expression G.2.2.1 a0 σ22 h23 ok_a0) ⟨(Nat.le_of_ble_eq_true rfl), (Nat.le_of_ble_eq_true rfl)⟩ G w k_a0.1 k_a0.2 rfl rfl hl.1 (Nat.le_of_ble_eq_true rfl) (dcs_get dec_X12_tellLaw_1 14 rfl) ⟨Nat.le_refl _, Nat.le_refl _⟩) G w (fun H locs w => ?_)
      exact B_X12_tellLaw_105 a0 l1 v7 σ24 G hm ok_a0 hf hb0 hr w (lv_sub hl [1, 2, 0] rfl)
  · rw [if_neg hc] at hf
    have e9 := hr _ (Option.some.inj hf).symm
    exact r_vret G w hm e9 (dcs_get dec_X12_tellLaw_0 21 rfl)
set_option maxRecDepth 100000 in
set_option maxHeartbeats 4000000 in
theorem B_X12_tellLaw_124 {H : Heap} {locs : List Loc} {ls : Array Slot} {σ0 : hSt} (a0 : Nat) (l1 : Int32) (σ : hSt) (G : Gx p m c cX12_tellLaw 3 s args RX12 D ay NM ad (aN NM ad)) (hm : meth.sig.returnType = none ∧ meth.locks = false) (ok_a0 : okr kM NM 12 a0 = true) (hf : F_X12_tellLaw_124 a0 l1 σ = some σ0)  (w : Wd D ay kM NM ad (aN NM ad) s σ H locs) (hl : lv_has ls 3 [(0, .ref (ad a0)), (1, .int l1)]) : W p l e (rmK 5 103) s m args below meth c H locs 0 0 (MQ below (cV D ay kM NM ad σ0) args s 0 0 (aN NM ad)) (F0 m 124 ls []) := by
  have k_a0 := okr_in ok_a0
  unfold F_X12_tellLaw_124 at hf
  refine lv_aload_n G.hx G.hb (dcs_get dec_X12_tellLaw_1 24 rfl) rfl (lv_at hl 0 rfl) ?_
  obtain ⟨z25, e_z25, ok_z25, hf⟩ := cR_some hf
  have k_z25 := okr_in ok_z25
  refine r_getr (k := 39) cls12 fi_12_39.1 fi_12_39.2 q_1047 G w k_a0.1 k_a0.2 e_z25 (dcs_get dec_X12_tellLaw_1 25 rfl) ?_
  refine lv_aload_n G.hx G.hb (dcs_get dec_X12_tellLaw_1 26 rfl) rfl (lv_at hl 0 rfl) ?_
  refine r_geti (k := 38) cls12 fi_12_38.1 fi_12_38.2 q_1046 G w k_a0.1 k_a0.2 (dcs_get dec_X12_tellLaw_1 27 rfl) ?_
  refine lv_iconst (v := (0 : Int32)) G.hx G.hb (dcs_get dec_X12_tellLaw_1 28 rfl) (by decide) ?_
  obtain ⟨h26, hf⟩ := cG_some hf
  obtain ⟨σ27, e_σ27, hf⟩ := cL_some hf
  refine r_zast G w k_z25.1 k_z25.2 h26 (dcs_get dec_X12_tellLaw_1 29 rfl) (fun H locs w => ?_)
  have w := Wd.nm e_σ27 w
  refine lv_aload_n G.hx G.hb (dcs_get dec_X12_tellLaw_1 30 rfl) rfl (lv_at hl 0 rfl) ?_
  obtain ⟨σ29, h28, hf⟩ := cB_some hf
  refine a_v (k_V (As := []) (rest := []) cls12 lb_X12_term lv_X12_term q_1326 (C_X12_term G.2.2.1 a0 σ27 h28 ok_a0) ⟨(Nat.le_of_ble_eq_true rfl), (Nat.le_of_ble_eq_true rfl)⟩ G w k_a0.1 k_a0.2 rfl rfl hl.1 (Nat.le_of_ble_eq_true rfl) (dcs_get dec_X12_tellLaw_1 31 rfl) ⟨Nat.le_refl _, Nat.le_refl _⟩) G w (fun H locs w => ?_)
  refine lv_aload_n G.hx G.hb (dcs_get dec_X12_tellLaw_1 32 rfl) rfl (lv_at hl 0 rfl) ?_
  refine lv_iconst (v := (4 : Int32)) G.hx G.hb (dcs_get dec_X12_tellLaw_1 33 rfl) (by decide) ?_
  obtain ⟨σ31, h30, hf⟩ := cB_some hf
  refine a_v (k_V (As := [.int (4 : Int32)]) (rest := []) cls12 lb_X12_must lv_X12_must q_1282 (C_X12_must G.2.2.1 a0 (4 : Int32) σ29 h30 ok_a0) ⟨(Nat.le_of_ble_eq_true rfl), (Nat.le_of_ble_eq_true rfl)⟩ G w k_a0.1 k_a0.2 rfl rfl hl.1 (Nat.le_of_ble_eq_true rfl) (dcs_get dec_X12_tellLaw_1 34 rfl) ⟨Nat.le_refl _, Nat.le_refl _⟩) G w (fun H locs w => ?_)
  refine lv_aload_n G.hx G.hb (dcs_get dec_X12_tellLaw_1 35 rfl) rfl (lv_at hl 0 rfl) ?_
  refine r_geti (k := 13) cls12 fi_12_13.1 fi_12_13.2 q_1021 G w k_a0.1 k_a0.2 (dcs_get dec_X12_tellLaw_1 36 rfl) ?_
  refine lv_if_le (tgt := 151) G.hx G.hb (dcs_get dec_X12_tellLaw_1 37 rfl) (by decide) (fun hc => ?_) (fun hc => ?_)
  · rw [if_pos hc] at hf
    refine lv_aload_n G.hx G.hb (dcs_get dec_X12_tellLaw_1 39 rfl) rfl (lv_at hl 0 rfl) ?_
    obtain ⟨z32, e_z32, ok_z32, hf⟩ := cR_some hf
    have k_z32 := okr_in ok_z32
    refine r_getr (k := 36) cls12 fi_12_36.1 fi_12_36.2 q_1044 G w k_a0.1 k_a0.2 e_z32 (dcs_get dec_X12_tellLaw_2 0 rfl) ?_
    refine lv_aload_n G.hx G.hb (dcs_get dec_X12_tellLaw_2 1 rfl) rfl (lv_at hl 0 rfl) ?_
    refine r_geti (k := 19) cls12 fi_12_19.1 fi_12_19.2 q_1027 G w k_a0.1 k_a0.2 (dcs_get dec_X12_tellLaw_2 2 rfl) ?_
    refine lv_iload_n G.hx G.hb (dcs_get dec_X12_tellLaw_2 3 rfl) rfl (lv_at hl 1 rfl) ?_
    obtain ⟨h33, hf⟩ := cG_some hf
    obtain ⟨σ34, e_σ34, hf⟩ := cL_some hf
    refine r_iast G w k_z32.1 k_z32.2 h33 (dcs_get dec_X12_tellLaw_2 4 rfl) (fun H locs w => ?_)
    have w := Wd.nm e_σ34 w
    refine lv_aload_n G.hx G.hb (dcs_get dec_X12_tellLaw_2 5 rfl) rfl (lv_at hl 0 rfl) ?_
    obtain ⟨z35, e_z35, ok_z35, hf⟩ := cR_some hf
    have k_z35 := okr_in ok_z35
    refine r_getr (k := 37) cls12 fi_12_37.1 fi_12_37.2 q_1045 G w k_a0.1 k_a0.2 e_z35 (dcs_get dec_X12_tellLaw_2 6 rfl) ?_
    refine lv_aload_n G.hx G.hb (dcs_get dec_X12_tellLaw_2 7 rfl) rfl (lv_at hl 0 rfl) ?_
    refine r_geti (k := 19) cls12 fi_12_19.1 fi_12_19.2 q_1027 G w k_a0.1 k_a0.2 (dcs_get dec_X12_tellLaw_2 8 rfl) ?_
    refine lv_aload_n G.hx G.hb (dcs_get dec_X12_tellLaw_2 9 rfl) rfl (lv_at hl 0 rfl) ?_
    refine r_geti (k := 38) cls12 fi_12_38.1 fi_12_38.2 q_1046 G w k_a0.1 k_a0.2 (dcs_get dec_X12_tellLaw_2 10 rfl) ?_
    obtain ⟨h36, hf⟩ := cG_some hf
    obtain ⟨σ37, e_σ37, hf⟩ := cL_some hf
    refine r_iast G w k_z35.1 k_z35.2 h36 (dcs_get dec_X12_tellLaw_2 11 rfl) (fun H locs w => ?_)
    have w := Wd.nm e_σ37 w
    have e9 := Option.some.inj hf
    exact r_vret G w hm e9 (dcs_get dec_X12_tellLaw_2 12 rfl)
  · rw [if_neg hc] at hf
    have e9 := Option.some.inj hf
    exact r_vret G w hm e9 (dcs_get dec_X12_tellLaw_1 38 rfl)
set_option maxRecDepth 100000 in
set_option maxHeartbeats 4000000 in
theorem B_X12_tellLaw_7b {H : Heap} {locs : List Loc} {ls : Array Slot} {σ0 : hSt} {o : (Int32 × hSt) ⊕ (hSt)} (a0 : Nat) (l1 : Int32) (l2 : Int32) (σ : hSt) (G : Gx p m c cX12_tellLaw 3 s args RX12 D ay NM ad (aN NM ad)) (hm : meth.sig.returnType = none ∧ meth.locks = false) (ok_a0 : okr kM NM 12 a0 = true) (hf : F_X12_tellLaw_7b a0 l1 l2 σ = some o) (hb0 : ∀ (v : Int32 × hSt), o = .inl v → ∀ (H : Heap) (locs : List Loc) (ls : Array Slot), Wd D ay kM NM ad (aN NM ad) s v.2 H locs → lv_has ls 3 [(0, .ref (ad a0)), (1, .int l1), (2, .int v.1)] → W p l e (rmK 5 103) s m args below meth c H locs 0 0 (MQ below (cV D ay kM NM ad σ0) args s 0 0 (aN NM ad)) (F0 m 7 ls [])) (hr : ∀ x, o = .inr (x) → x = σ0) (w : Wd D ay kM NM ad (aN NM ad) s σ H locs) (hl : lv_has ls 3 [(0, .ref (ad a0)), (1, .int l1), (2, .int l2)]) : W p l e (rmK 5 103) s m args below meth c H locs 0 0 (MQ below (cV D ay kM NM ad σ0) args s 0 0 (aN NM ad)) (F0 m 7 ls []) := by
  have k_a0 := okr_in ok_a0
  unfold F_X12_tellLaw_7b at hf
  refine lv_aload_n G.hx G.hb (dcs_get dec_X12_tellLaw_0 5 rfl) rfl (lv_at hl 0 rfl) ?_
  refine r_geti (k := 13) cls12 fi_12_13.1 fi_12_13.2 q_1021 G w k_a0.1 k_a0.2 (dcs_get dec_X12_tellLaw_0 6 rfl) ?_
  refine lv_if_ne (tgt := 124) G.hx G.hb (dcs_get dec_X12_tellLaw_0 7 rfl) (by decide) (fun hc => ?_) (fun hc => ?_)
  · rw [if_neg hc] at hf
    obtain ⟨x9, h9, e9⟩ := map_some_inv hf
    subst e9
    have e8 := hr _ rfl
    rw [e8] at h9
    exact B_X12_tellLaw_124 a0 l1 σ G hm ok_a0 h9 w (lv_sub hl [0, 1] rfl)
  · rw [if_pos hc] at hf
    refine lv_aload_n G.hx G.hb (dcs_get dec_X12_tellLaw_0 8 rfl) rfl (lv_at hl 0 rfl) ?_
    refine lv_bipush (v := (32 : Int32)) G.hx G.hb (dcs_get dec_X12_tellLaw_0 9 rfl) (by decide) ?_
    obtain ⟨v39, h38, hf⟩ := cB_some hf
    refine a_i (k_V (As := [.int (32 : Int32)]) (rest := []) cls12 lb_X12_is lv_X12_is q_1254 (C_X12_is G.2.2.1 a0 (32 : Int32) σ h38 ok_a0) ⟨(Nat.le_of_ble_eq_true rfl), (Nat.le_of_ble_eq_true rfl)⟩ G w k_a0.1 k_a0.2 rfl rfl hl.1 (Nat.le_of_ble_eq_true rfl) (dcs_get dec_X12_tellLaw_0 10 rfl) ⟨Nat.le_refl _, Nat.le_refl _⟩) G w (fun H locs w => ?_)
    refine lv_if_eq (tgt := 124) G.hx G.hb (dcs_get dec_X12_tellLaw_0 11 rfl) (by decide) (fun hc => ?_) (fun hc => ?_)
    · rw [if_pos hc] at hf
      obtain ⟨x9, h9, e9⟩ := map_some_inv hf
      subst e9
      have e8 := hr _ rfl
      rw [e8] at h9
      exact B_X12_tellLaw_124 a0 l1 σ G hm ok_a0 h9 w (lv_sub hl [0, 1] rfl)
    · rw [if_neg hc] at hf
      refine lv_iload_n G.hx G.hb (dcs_get dec_X12_tellLaw_0 12 rfl) rfl (lv_at hl 2 rfl) ?_
      refine lv_iconst (v := (4 : Int32)) G.hx G.hb (dcs_get dec_X12_tellLaw_0 13 rfl) (by decide) ?_
      refine lv_icmp_ne (tgt := 33) G.hx G.hb (dcs_get dec_X12_tellLaw_0 14 rfl) (by decide) (fun hc => ?_) (fun hc => ?_)
      · rw [if_neg hc] at hf
        exact B_X12_tellLaw_33 a0 l1 l2 σ G hm ok_a0 hf hb0 hr w (lv_sub hl [0, 1, 2] rfl)
      · rw [if_pos hc] at hf
        refine lv_aload_n G.hx G.hb (dcs_get dec_X12_tellLaw_0 15 rfl) rfl (lv_at hl 0 rfl) ?_
        refine lv_iconst (v := (2 : Int32)) G.hx G.hb (dcs_get dec_X12_tellLaw_0 16 rfl) (by decide) ?_
        obtain ⟨σ41, h40, hf⟩ := cB_some hf
        refine a_v (k_V (As := [.int (2 : Int32)]) (rest := []) cls12 lb_X12_fail lv_X12_fail q_1266 (C_X12_fail G.2.2.1 a0 (2 : Int32) σ h40 ok_a0) ⟨(Nat.le_of_ble_eq_true rfl), (Nat.le_of_ble_eq_true rfl)⟩ G w k_a0.1 k_a0.2 rfl rfl hl.1 (Nat.le_of_ble_eq_true rfl) (dcs_get dec_X12_tellLaw_0 17 rfl) ⟨Nat.le_refl _, Nat.le_refl _⟩) G w (fun H locs w => ?_)
        exact B_X12_tellLaw_33 a0 l1 l2 σ41 G hm ok_a0 hf hb0 hr w (lv_sub hl [0, 1, 2] rfl)
set_option maxRecDepth 100000 in
set_option maxHeartbeats 4000000 in
theorem H_X12_tellLaw_7 {σ0 : hSt} (a0 : Nat) (l1 : Int32) (G : Gx p m c cX12_tellLaw 3 s args RX12 D ay NM ad (aN NM ad)) (hm : meth.sig.returnType = none ∧ meth.locks = false) (ok_a0 : okr kM NM 12 a0 = true)  : ∀ (k : Nat) (v : Int32 × hSt), lp (S_X12_tellLaw_7 a0 l1) k v = some σ0 → ∀ (H : Heap) (locs : List Loc) (ls : Array Slot), Wd D ay kM NM ad (aN NM ad) s v.2 H locs → lv_has ls 3 [(0, .ref (ad a0)), (1, .int l1), (2, .int v.1)] → W p l e (rmK 5 103) s m args below meth c H locs 0 0 (MQ below (cV D ay kM NM ad σ0) args s 0 0 (aN NM ad)) (F0 m 7 ls []) := by
  intro k
  induction k with
  | zero => intro v hf; cases hf
  | succ k ih =>
    intro v hf H locs ls w hl
    obtain ⟨o1, h1, h2, h3⟩ := lp_some hf
    exact B_X12_tellLaw_7b a0 l1 v.1 v.2 G hm ok_a0 h1  (fun v' e => ih v' (h2 v' e)) (fun x e => h3 x e) w hl
set_option maxRecDepth 100000 in
set_option maxHeartbeats 4000000 in
theorem B_X12_tellLaw_7 {H : Heap} {locs : List Loc} {ls : Array Slot} {σ0 : hSt} (a0 : Nat) (l1 : Int32) (l2 : Int32) (σ : hSt) (G : Gx p m c cX12_tellLaw 3 s args RX12 D ay NM ad (aN NM ad)) (hm : meth.sig.returnType = none ∧ meth.locks = false) (ok_a0 : okr kM NM 12 a0 = true) (hf : F_X12_tellLaw_7 a0 l1 l2 σ = some σ0)  (w : Wd D ay kM NM ad (aN NM ad) s σ H locs) (hl : lv_has ls 3 [(0, .ref (ad a0)), (1, .int l1), (2, .int l2)]) : W p l e (rmK 5 103) s m args below meth c H locs 0 0 (MQ below (cV D ay kM NM ad σ0) args s 0 0 (aN NM ad)) (F0 m 7 ls []) := by
  unfold F_X12_tellLaw_7 at hf
  exact H_X12_tellLaw_7 a0 l1  G hm ok_a0  fuel (l2, σ) hf _ _ _ w hl
set_option maxRecDepth 100000 in
set_option maxHeartbeats 4000000 in
theorem B_X12_tellLaw_0 {H : Heap} {locs : List Loc} {ls : Array Slot} {σ0 : hSt} (a0 : Nat) (σ : hSt) (G : Gx p m c cX12_tellLaw 3 s args RX12 D ay NM ad (aN NM ad)) (hm : meth.sig.returnType = none ∧ meth.locks = false) (ok_a0 : okr kM NM 12 a0 = true) (hf : F_X12_tellLaw a0 σ = some σ0)  (w : Wd D ay kM NM ad (aN NM ad) s σ H locs) (hl : lv_has ls 3 [(0, .ref (ad a0))]) : W p l e (rmK 5 103) s m args below meth c H locs 0 0 (MQ below (cV D ay kM NM ad σ0) args s 0 0 (aN NM ad)) (F0 m 0 ls []) := by
  have k_a0 := okr_in ok_a0
  unfold F_X12_tellLaw at hf
  refine lv_aload_n G.hx G.hb (dcs_get dec_X12_tellLaw_0 0 rfl) rfl (lv_at hl 0 rfl) ?_
  refine r_geti (k := 38) cls12 fi_12_38.1 fi_12_38.2 q_1046 G w k_a0.1 k_a0.2 (dcs_get dec_X12_tellLaw_0 1 rfl) ?_
  obtain ⟨v42, e_v42, hf⟩ := cL_some hf
  refine r_topi e_v42 ?_
  refine lv_istore_n (lv' := [(1, .int v42), (0, .ref (ad a0))]) G.hx G.hb (dcs_get dec_X12_tellLaw_0 2 rfl) rfl hl (by decide) rfl (fun ls hl => ?_)
  refine lv_iconst (v := (0 : Int32)) G.hx G.hb (dcs_get dec_X12_tellLaw_0 3 rfl) (by decide) ?_
  refine lv_istore_n (lv' := [(2, .int (0 : Int32)), (1, .int v42), (0, .ref (ad a0))]) G.hx G.hb (dcs_get dec_X12_tellLaw_0 4 rfl) rfl hl (by decide) rfl (fun ls hl => ?_)
  exact B_X12_tellLaw_7 a0 v42 (0 : Int32) σ G hm ok_a0 hf  w (lv_sub hl [2, 1, 0] rfl)
end
set_option maxRecDepth 100000 in
set_option maxHeartbeats 4000000 in
theorem C_X12_tellLaw {l : Launch} {D : va_G} {ay : Nat → ClassId} {ad : Nat → Nat} (hi : hInj NM ad) (a0 : Nat) (σ : hSt) {σ0 : hSt} (hf : F_X12_tellLaw a0 σ = some σ0) (ok_a0 : okr kM NM 12 a0 = true) : hM l D ay kM NM ad yX12_tellLaw cX12_tellLaw 3 (none) (rmK 5 103) [.ref (ad a0)] σ (cV D ay kM NM ad σ0) := by
  refine hM_in (by decide) hi (Nat.le_of_ble_eq_true rfl) ?_
  intro p e s m below meth c G hm w ls hl
  exact B_X12_tellLaw_0 a0 σ G hm ok_a0 hf w (lv_sub hl [0] rfl)

/-! HillDrumsModel.tellWeather(I)V -/
def DL_X12_tellWeather_0 : List (Nat × Instr × Nat) := [(0, .iconst 0, 1), (1, .istore_n 2, 1), (2, .aload_n 0, 1), (3, .getfield 206, 3), (6, .ifCond .ne 54, 3), (9, .aload_n 0, 1), (10, .iconst 2, 1), (11, .invokevirtual 224, 3), (14, .ifCond .eq 46, 3), (17, .iload_n 2, 1), (18, .bipush 12, 2), (20, .if_icmp .ne 8, 3), (23, .aload_n 0, 1), (24, .iconst 2, 1), (25, .invokevirtual 221, 3), (28, .aload_n 0, 1), (29, .getfield 206, 3), (32, .ifCond .le 4, 3), (35, .return_, 1), (36, .aload_n 0, 1), (37, .getfield 67, 3), (40, .bipush 12, 2), (42, .iload_n 1, 1), (43, .imul, 1), (44, .iload_n 2, 1), (45, .iadd, 1), (46, .aload_n 0, 1), (47, .iconst 0, 1), (48, .bipush 99, 2), (50, .invokevirtual 289, 3), (53, .iastore, 1), (54, .iinc 2 1, 3), (57, .goto (-55), 3), (60, .aload_n 0, 1), (61, .iconst 4, 1), (62, .invokevirtual 270, 3), (65, .aload_n 0, 1), (66, .getfield 64, 3), (69, .iload_n 1, 1), (70, .iload_n 2, 1)]
set_option maxRecDepth 100000 in
theorem dec_X12_tellWeather_0 : dcs cX12_tellWeather DL_X12_tellWeather_0 = true := by decide +kernel
def DL_X12_tellWeather_1 : List (Nat × Instr × Nat) := [(71, .iastore, 1), (72, .return_, 1)]
set_option maxRecDepth 100000 in
theorem dec_X12_tellWeather_1 : dcs cX12_tellWeather DL_X12_tellWeather_1 = true := by decide +kernel
theorem lb_X12_tellWeather : lkB yX12_tellWeather cX12_tellWeather 3 (none) 1 := ⟨q_1333, q_14, ⟨by decide, by decide⟩, by decide +kernel⟩
theorem lv_X12_tellWeather : lkV yX12_tellWeather := ⟨q_1332, qs_91⟩
def F_X12_tellWeather_28 (a0 : Nat) (l1 : Int32) (l2 : Int32) (σ : hSt) : Option ((Int32 × hSt) ⊕ (hSt)) :=
if (σ.1 a0 13) ≤ 0 then (
cR (σ.2.2 a0 30) (okr kM NM 101) fun z1 =>
cC (F_X12_bounded a0 (0 : Int32) (99 : Int32) σ) fun v3 σ4 =>
cG (inb (((12 : Int32) * l1) + l2) (kM z1).2) <|
cL (uI σ4 z1 (((12 : Int32) * l1) + l2).toNatClampNeg v3) fun σ6 =>
cL (l2 + (1 : Int32)) fun v7 =>
some (.inl (v7, σ6))) else (
some (.inr (σ)))
def F_X12_tellWeather_60 (a0 : Nat) (l1 : Int32) (l2 : Int32) (σ : hSt) : Option (hSt) :=
(F_X12_must a0 (4 : Int32) σ).bind fun σ9 =>
cR (σ9.2.2 a0 29) (okr kM NM 101) fun z10 =>
cG (inb l1 (kM z10).2) <|
cL (uI σ9 z10 l1.toNatClampNeg l2) fun σ12 =>
some (σ12)
def F_X12_tellWeather_2b (a0 : Nat) (l1 : Int32) (l2 : Int32) (σ : hSt) : Option ((Int32 × hSt) ⊕ (hSt)) :=
if (σ.1 a0 13) = 0 then (
(F_X12_is a0 (2 : Int32) σ).bind fun v14 =>
if v14 = 0 then (
(F_X12_tellWeather_60 a0 l1 l2 σ).map (fun x => .inr (x))) else (
if l2 = (12 : Int32) then (
(F_X12_fail a0 (2 : Int32) σ).bind fun σ16 =>
F_X12_tellWeather_28 a0 l1 l2 σ16) else (
F_X12_tellWeather_28 a0 l1 l2 σ))) else (
(F_X12_tellWeather_60 a0 l1 l2 σ).map (fun x => .inr (x)))
def S_X12_tellWeather_2 (a0 : Nat) (l1 : Int32) (v : Int32 × hSt) : Option ((Int32 × hSt) ⊕ (hSt)) := F_X12_tellWeather_2b a0 l1 v.1 v.2
def F_X12_tellWeather_2 (a0 : Nat) (l1 : Int32) (l2 : Int32) (σ : hSt) : Option (hSt) := lp (S_X12_tellWeather_2 a0 l1) fuel (l2, σ)
def F_X12_tellWeather (a0 : Nat) (l1 : Int32) (σ : hSt) : Option (hSt) :=
F_X12_tellWeather_2 a0 l1 (0 : Int32) σ
section
variable {p : Program} {l : Launch} {e : Env} {s : State} {m : MethodId} {args : Array Value} {below : List Frame} {meth : Method} {c : Code} {D : va_G} {ay : Nat → ClassId} {ad : Nat → Nat}
set_option maxRecDepth 100000 in
set_option maxHeartbeats 4000000 in
theorem B_X12_tellWeather_28 {H : Heap} {locs : List Loc} {ls : Array Slot} {σ0 : hSt} {o : (Int32 × hSt) ⊕ (hSt)} (a0 : Nat) (l1 : Int32) (l2 : Int32) (σ : hSt) (G : Gx p m c cX12_tellWeather 3 s args RX12 D ay NM ad (aN NM ad)) (hm : meth.sig.returnType = none ∧ meth.locks = false) (ok_a0 : okr kM NM 12 a0 = true) (hf : F_X12_tellWeather_28 a0 l1 l2 σ = some o) (hb0 : ∀ (v : Int32 × hSt), o = .inl v → ∀ (H : Heap) (locs : List Loc) (ls : Array Slot), Wd D ay kM NM ad (aN NM ad) s v.2 H locs → lv_has ls 3 [(0, .ref (ad a0)), (1, .int l1), (2, .int v.1)] → W p l e (rmK 3 64) s m args below meth c H locs 0 0 (MQ below (cV D ay kM NM ad σ0) args s 0 0 (aN NM ad)) (F0 m 2 ls [])) (hr : ∀ x, o = .inr (x) → x = σ0) (w : Wd D ay kM NM ad (aN NM ad) s σ H locs) (hl : lv_has ls 3 [(0, .ref (ad a0)), (1, .int l1), (2, .int l2)]) : W p l e (rmK 3 64) s m args below meth c H locs 0 0 (MQ below (cV D ay kM NM ad σ0) args s 0 0 (aN NM ad)) (F0 m 28 ls []) := by
  have k_a0 := okr_in ok_a0
  unfold F_X12_tellWeather_28 at hf
  refine lv_aload_n G.hx G.hb (dcs_get dec_X12_tellWeather_0 15 rfl) rfl (lv_at hl 0 rfl) ?_
  refine r_geti (k := 13) cls12 fi_12_13.1 fi_12_13.2 q_1021 G w k_a0.1 k_a0.2 (dcs_get dec_X12_tellWeather_0 16 rfl) ?_
  refine lv_if_le (tgt := 36) G.hx G.hb (dcs_get dec_X12_tellWeather_0 17 rfl) (by decide) (fun hc => ?_) (fun hc => ?_)
  · rw [if_pos hc] at hf
    refine lv_aload_n G.hx G.hb (dcs_get dec_X12_tellWeather_0 19 rfl) rfl (lv_at hl 0 rfl) ?_
    obtain ⟨z1, e_z1, ok_z1, hf⟩ := cR_some hf
    have k_z1 := okr_in ok_z1
    refine r_getr (k := 30) cls12 fi_12_30.1 fi_12_30.2 q_1038 G w k_a0.1 k_a0.2 e_z1 (dcs_get dec_X12_tellWeather_0 20 rfl) ?_
    refine lv_bipush (v := (12 : Int32)) G.hx G.hb (dcs_get dec_X12_tellWeather_0 21 rfl) (by decide) ?_
    refine lv_iload_n G.hx G.hb (dcs_get dec_X12_tellWeather_0 22 rfl) rfl (lv_at hl 1 rfl) ?_
    refine lv_imul G.hx G.hb (dcs_get dec_X12_tellWeather_0 23 rfl) ?_
    refine lv_iload_n G.hx G.hb (dcs_get dec_X12_tellWeather_0 24 rfl) rfl (lv_at hl 2 rfl) ?_
    refine lv_iadd G.hx G.hb (dcs_get dec_X12_tellWeather_0 25 rfl) ?_
    refine lv_aload_n G.hx G.hb (dcs_get dec_X12_tellWeather_0 26 rfl) rfl (lv_at hl 0 rfl) ?_
    refine lv_iconst (v := (0 : Int32)) G.hx G.hb (dcs_get dec_X12_tellWeather_0 27 rfl) (by decide) ?_
    refine lv_bipush (v := (99 : Int32)) G.hx G.hb (dcs_get dec_X12_tellWeather_0 28 rfl) (by decide) ?_
    obtain ⟨v3, σ4, h2, hf⟩ := cC_some hf
    refine a_i (k_V (As := [.int (0 : Int32), .int (99 : Int32)]) (rest := [.int (((12 : Int32) * l1) + l2), .ref (ad z1)]) cls12 lb_X12_bounded lv_X12_bounded q_1290 (C_X12_bounded G.2.2.1 a0 (0 : Int32) (99 : Int32) σ h2 ok_a0) ⟨(Nat.le_of_ble_eq_true rfl), (Nat.le_of_ble_eq_true rfl)⟩ G w k_a0.1 k_a0.2 rfl rfl hl.1 (Nat.le_of_ble_eq_true rfl) (dcs_get dec_X12_tellWeather_0 29 rfl) ⟨Nat.le_refl _, Nat.le_refl _⟩) G w (fun H locs w => ?_)
    obtain ⟨h5, hf⟩ := cG_some hf
    obtain ⟨σ6, e_σ6, hf⟩ := cL_some hf
    refine r_iast G w k_z1.1 k_z1.2 h5 (dcs_get dec_X12_tellWeather_0 30 rfl) (fun H locs w => ?_)
    have w := Wd.nm e_σ6 w
    obtain ⟨v7, e_v7, hf⟩ := cL_some hf
    refine lv_iinc (v := v7) (lv' := [(2, .int v7), (0, .ref (ad a0)), (1, .int l1)]) G.hx G.hb (dcs_get dec_X12_tellWeather_0 31 rfl) hl (k := 2) rfl (by rw [e_v7]; rfl) (by decide) rfl (fun ls hl => ?_)
    refine lv_goto (tgt := 2) G.hx G.hb (dcs_get dec_X12_tellWeather_0 32 rfl) (by decide) ?_
    exact hb0 _ (Option.some.inj hf).symm _ _ _ w (lv_sub hl [1, 2, 0] rfl)
  · rw [if_neg hc] at hf
    have e9 := hr _ (Option.some.inj hf).symm
    exact r_vret G w hm e9 (dcs_get dec_X12_tellWeather_0 18 rfl)
set_option maxRecDepth 100000 in
set_option maxHeartbeats 4000000 in
theorem B_X12_tellWeather_60 {H : Heap} {locs : List Loc} {ls : Array Slot} {σ0 : hSt} (a0 : Nat) (l1 : Int32) (l2 : Int32) (σ : hSt) (G : Gx p m c cX12_tellWeather 3 s args RX12 D ay NM ad (aN NM ad)) (hm : meth.sig.returnType = none ∧ meth.locks = false) (ok_a0 : okr kM NM 12 a0 = true) (hf : F_X12_tellWeather_60 a0 l1 l2 σ = some σ0)  (w : Wd D ay kM NM ad (aN NM ad) s σ H locs) (hl : lv_has ls 3 [(0, .ref (ad a0)), (1, .int l1), (2, .int l2)]) : W p l e (rmK 3 64) s m args below meth c H locs 0 0 (MQ below (cV D ay kM NM ad σ0) args s 0 0 (aN NM ad)) (F0 m 60 ls []) := by
  have k_a0 := okr_in ok_a0
  unfold F_X12_tellWeather_60 at hf
  refine lv_aload_n G.hx G.hb (dcs_get dec_X12_tellWeather_0 33 rfl) rfl (lv_at hl 0 rfl) ?_
  refine lv_iconst (v := (4 : Int32)) G.hx G.hb (dcs_get dec_X12_tellWeather_0 34 rfl) (by decide) ?_
  obtain ⟨σ9, h8, hf⟩ := cB_some hf
  refine a_v (k_V (As := [.int (4 : Int32)]) (rest := []) cls12 lb_X12_must lv_X12_must q_1282 (C_X12_must G.2.2.1 a0 (4 : Int32) σ h8 ok_a0) ⟨(Nat.le_of_ble_eq_true rfl), (Nat.le_of_ble_eq_true rfl)⟩ G w k_a0.1 k_a0.2 rfl rfl hl.1 (Nat.le_of_ble_eq_true rfl) (dcs_get dec_X12_tellWeather_0 35 rfl) ⟨Nat.le_refl _, Nat.le_refl _⟩) G w (fun H locs w => ?_)
  refine lv_aload_n G.hx G.hb (dcs_get dec_X12_tellWeather_0 36 rfl) rfl (lv_at hl 0 rfl) ?_
  obtain ⟨z10, e_z10, ok_z10, hf⟩ := cR_some hf
  have k_z10 := okr_in ok_z10
  refine r_getr (k := 29) cls12 fi_12_29.1 fi_12_29.2 q_1037 G w k_a0.1 k_a0.2 e_z10 (dcs_get dec_X12_tellWeather_0 37 rfl) ?_
  refine lv_iload_n G.hx G.hb (dcs_get dec_X12_tellWeather_0 38 rfl) rfl (lv_at hl 1 rfl) ?_
  refine lv_iload_n G.hx G.hb (dcs_get dec_X12_tellWeather_0 39 rfl) rfl (lv_at hl 2 rfl) ?_
  obtain ⟨h11, hf⟩ := cG_some hf
  obtain ⟨σ12, e_σ12, hf⟩ := cL_some hf
  refine r_iast G w k_z10.1 k_z10.2 h11 (dcs_get dec_X12_tellWeather_1 0 rfl) (fun H locs w => ?_)
  have w := Wd.nm e_σ12 w
  have e9 := Option.some.inj hf
  exact r_vret G w hm e9 (dcs_get dec_X12_tellWeather_1 1 rfl)
set_option maxRecDepth 100000 in
set_option maxHeartbeats 4000000 in
theorem B_X12_tellWeather_2b {H : Heap} {locs : List Loc} {ls : Array Slot} {σ0 : hSt} {o : (Int32 × hSt) ⊕ (hSt)} (a0 : Nat) (l1 : Int32) (l2 : Int32) (σ : hSt) (G : Gx p m c cX12_tellWeather 3 s args RX12 D ay NM ad (aN NM ad)) (hm : meth.sig.returnType = none ∧ meth.locks = false) (ok_a0 : okr kM NM 12 a0 = true) (hf : F_X12_tellWeather_2b a0 l1 l2 σ = some o) (hb0 : ∀ (v : Int32 × hSt), o = .inl v → ∀ (H : Heap) (locs : List Loc) (ls : Array Slot), Wd D ay kM NM ad (aN NM ad) s v.2 H locs → lv_has ls 3 [(0, .ref (ad a0)), (1, .int l1), (2, .int v.1)] → W p l e (rmK 3 64) s m args below meth c H locs 0 0 (MQ below (cV D ay kM NM ad σ0) args s 0 0 (aN NM ad)) (F0 m 2 ls [])) (hr : ∀ x, o = .inr (x) → x = σ0) (w : Wd D ay kM NM ad (aN NM ad) s σ H locs) (hl : lv_has ls 3 [(0, .ref (ad a0)), (1, .int l1), (2, .int l2)]) : W p l e (rmK 3 64) s m args below meth c H locs 0 0 (MQ below (cV D ay kM NM ad σ0) args s 0 0 (aN NM ad)) (F0 m 2 ls []) := by
  have k_a0 := okr_in ok_a0
  unfold F_X12_tellWeather_2b at hf
  refine lv_aload_n G.hx G.hb (dcs_get dec_X12_tellWeather_0 2 rfl) rfl (lv_at hl 0 rfl) ?_
  refine r_geti (k := 13) cls12 fi_12_13.1 fi_12_13.2 q_1021 G w k_a0.1 k_a0.2 (dcs_get dec_X12_tellWeather_0 3 rfl) ?_
  refine lv_if_ne (tgt := 60) G.hx G.hb (dcs_get dec_X12_tellWeather_0 4 rfl) (by decide) (fun hc => ?_) (fun hc => ?_)
  · rw [if_neg hc] at hf
    obtain ⟨x9, h9, e9⟩ := map_some_inv hf
    subst e9
    have e8 := hr _ rfl
    rw [e8] at h9
    exact B_X12_tellWeather_60 a0 l1 l2 σ G hm ok_a0 h9 w (lv_sub hl [0, 1, 2] rfl)
  · rw [if_pos hc] at hf
    refine lv_aload_n G.hx G.hb (dcs_get dec_X12_tellWeather_0 5 rfl) rfl (lv_at hl 0 rfl) ?_
    refine lv_iconst (v := (2 : Int32)) G.hx G.hb (dcs_get dec_X12_tellWeather_0 6 rfl) (by decide) ?_
    obtain ⟨v14, h13, hf⟩ := cB_some hf
    refine a_i (k_V (As := [.int (2 : Int32)]) (rest := []) cls12 lb_X12_is lv_X12_is q_1254 (C_X12_is G.2.2.1 a0 (2 : Int32) σ h13 ok_a0) ⟨(Nat.le_of_ble_eq_true rfl), (Nat.le_of_ble_eq_true rfl)⟩ G w k_a0.1 k_a0.2 rfl rfl hl.1 (Nat.le_of_ble_eq_true rfl) (dcs_get dec_X12_tellWeather_0 7 rfl) ⟨Nat.le_refl _, Nat.le_refl _⟩) G w (fun H locs w => ?_)
    refine lv_if_eq (tgt := 60) G.hx G.hb (dcs_get dec_X12_tellWeather_0 8 rfl) (by decide) (fun hc => ?_) (fun hc => ?_)
    · rw [if_pos hc] at hf
      obtain ⟨x9, h9, e9⟩ := map_some_inv hf
      subst e9
      have e8 := hr _ rfl
      rw [e8] at h9
      exact B_X12_tellWeather_60 a0 l1 l2 σ G hm ok_a0 h9 w (lv_sub hl [0, 1, 2] rfl)
    · rw [if_neg hc] at hf
      refine lv_iload_n G.hx G.hb (dcs_get dec_X12_tellWeather_0 9 rfl) rfl (lv_at hl 2 rfl) ?_
      refine lv_bipush (v := (12 : Int32)) G.hx G.hb (dcs_get dec_X12_tellWeather_0 10 rfl) (by decide) ?_
      refine lv_icmp_ne (tgt := 28) G.hx G.hb (dcs_get dec_X12_tellWeather_0 11 rfl) (by decide) (fun hc => ?_) (fun hc => ?_)
      · rw [if_neg hc] at hf
        exact B_X12_tellWeather_28 a0 l1 l2 σ G hm ok_a0 hf hb0 hr w (lv_sub hl [0, 1, 2] rfl)
      · rw [if_pos hc] at hf
        refine lv_aload_n G.hx G.hb (dcs_get dec_X12_tellWeather_0 12 rfl) rfl (lv_at hl 0 rfl) ?_
        refine lv_iconst (v := (2 : Int32)) G.hx G.hb (dcs_get dec_X12_tellWeather_0 13 rfl) (by decide) ?_
        obtain ⟨σ16, h15, hf⟩ := cB_some hf
        refine a_v (k_V (As := [.int (2 : Int32)]) (rest := []) cls12 lb_X12_fail lv_X12_fail q_1266 (C_X12_fail G.2.2.1 a0 (2 : Int32) σ h15 ok_a0) ⟨(Nat.le_of_ble_eq_true rfl), (Nat.le_of_ble_eq_true rfl)⟩ G w k_a0.1 k_a0.2 rfl rfl hl.1 (Nat.le_of_ble_eq_true rfl) (dcs_get dec_X12_tellWeather_0 14 rfl) ⟨Nat.le_refl _, Nat.le_refl _⟩) G w (fun H locs w => ?_)
        exact B_X12_tellWeather_28 a0 l1 l2 σ16 G hm ok_a0 hf hb0 hr w (lv_sub hl [0, 1, 2] rfl)
set_option maxRecDepth 100000 in
set_option maxHeartbeats 4000000 in
theorem H_X12_tellWeather_2 {σ0 : hSt} (a0 : Nat) (l1 : Int32) (G : Gx p m c cX12_tellWeather 3 s args RX12 D ay NM ad (aN NM ad)) (hm : meth.sig.returnType = none ∧ meth.locks = false) (ok_a0 : okr kM NM 12 a0 = true)  : ∀ (k : Nat) (v : Int32 × hSt), lp (S_X12_tellWeather_2 a0 l1) k v = some σ0 → ∀ (H : Heap) (locs : List Loc) (ls : Array Slot), Wd D ay kM NM ad (aN NM ad) s v.2 H locs → lv_has ls 3 [(0, .ref (ad a0)), (1, .int l1), (2, .int v.1)] → W p l e (rmK 3 64) s m args below meth c H locs 0 0 (MQ below (cV D ay kM NM ad σ0) args s 0 0 (aN NM ad)) (F0 m 2 ls []) := by
  intro k
  induction k with
  | zero => intro v hf; cases hf
  | succ k ih =>
    intro v hf H locs ls w hl
    obtain ⟨o1, h1, h2, h3⟩ := lp_some hf
    exact B_X12_tellWeather_2b a0 l1 v.1 v.2 G hm ok_a0 h1  (fun v' e => ih v' (h2 v' e)) (fun x e => h3 x e) w hl
set_option maxRecDepth 100000 in
set_option maxHeartbeats 4000000 in
theorem B_X12_tellWeather_2 {H : Heap} {locs : List Loc} {ls : Array Slot} {σ0 : hSt} (a0 : Nat) (l1 : Int32) (l2 : Int32) (σ : hSt) (G : Gx p m c cX12_tellWeather 3 s args RX12 D ay NM ad (aN NM ad)) (hm : meth.sig.returnType = none ∧ meth.locks = false) (ok_a0 : okr kM NM 12 a0 = true) (hf : F_X12_tellWeather_2 a0 l1 l2 σ = some σ0)  (w : Wd D ay kM NM ad (aN NM ad) s σ H locs) (hl : lv_has ls 3 [(0, .ref (ad a0)), (1, .int l1), (2, .int l2)]) : W p l e (rmK 3 64) s m args below meth c H locs 0 0 (MQ below (cV D ay kM NM ad σ0) args s 0 0 (aN NM ad)) (F0 m 2 ls []) := by
  unfold F_X12_tellWeather_2 at hf
  exact H_X12_tellWeather_2 a0 l1  G hm ok_a0  fuel (l2, σ) hf _ _ _ w hl
set_option maxRecDepth 100000 in
set_option maxHeartbeats 4000000 in
theorem B_X12_tellWeather_0 {H : Heap} {locs : List Loc} {ls : Array Slot} {σ0 : hSt} (a0 : Nat) (l1 : Int32) (σ : hSt) (G : Gx p m c cX12_tellWeather 3 s args RX12 D ay NM ad (aN NM ad)) (hm : meth.sig.returnType = none ∧ meth.locks = false) (ok_a0 : okr kM NM 12 a0 = true) (hf : F_X12_tellWeather a0 l1 σ = some σ0)  (w : Wd D ay kM NM ad (aN NM ad) s σ H locs) (hl : lv_has ls 3 [(0, .ref (ad a0)), (1, .int l1)]) : W p l e (rmK 3 64) s m args below meth c H locs 0 0 (MQ below (cV D ay kM NM ad σ0) args s 0 0 (aN NM ad)) (F0 m 0 ls []) := by
  have k_a0 := okr_in ok_a0
  unfold F_X12_tellWeather at hf
  refine lv_iconst (v := (0 : Int32)) G.hx G.hb (dcs_get dec_X12_tellWeather_0 0 rfl) (by decide) ?_
  refine lv_istore_n (lv' := [(2, .int (0 : Int32)), (0, .ref (ad a0)), (1, .int l1)]) G.hx G.hb (dcs_get dec_X12_tellWeather_0 1 rfl) rfl hl (by decide) rfl (fun ls hl => ?_)
  exact B_X12_tellWeather_2 a0 l1 (0 : Int32) σ G hm ok_a0 hf  w (lv_sub hl [1, 2, 0] rfl)
end
set_option maxRecDepth 100000 in
set_option maxHeartbeats 4000000 in
theorem C_X12_tellWeather {l : Launch} {D : va_G} {ay : Nat → ClassId} {ad : Nat → Nat} (hi : hInj NM ad) (a0 : Nat) (l1 : Int32) (σ : hSt) {σ0 : hSt} (hf : F_X12_tellWeather a0 l1 σ = some σ0) (ok_a0 : okr kM NM 12 a0 = true) : hM l D ay kM NM ad yX12_tellWeather cX12_tellWeather 3 (none) (rmK 3 64) [.ref (ad a0), .int l1] σ (cV D ay kM NM ad σ0) := by
  refine hM_in (by decide) hi (Nat.le_of_ble_eq_true rfl) ?_
  intro p e s m below meth c G hm w ls hl
  exact B_X12_tellWeather_0 a0 l1 σ G hm ok_a0 hf w (lv_sub hl [0, 1] rfl)

/-! HillDrumsModel.tellSleeper()V -/
def DL_X12_tellSleeper_0 : List (Nat × Instr × Nat) := [(0, .iconst 4, 1), (1, .aload_n 0, 1), (2, .getfield 239, 3), (5, .imul, 1), (6, .aload_n 0, 1), (7, .getfield 73, 3), (10, .aload_n 0, 1), (11, .getfield 239, 3), (14, .iaload, 1), (15, .iadd, 1), (16, .istore_n 1, 1), (17, .aload_n 0, 1), (18, .getfield 76, 3), (21, .iload_n 1, 1), (22, .aload_n 0, 1), (23, .iconst 0, 1), (24, .invokevirtual 297, 3), (27, .iastore, 1), (28, .aload_n 0, 1), (29, .getfield 79, 3), (32, .iload_n 1, 1), (33, .aload_n 0, 1), (34, .iconst 1, 1), (35, .invokevirtual 297, 3), (38, .iastore, 1), (39, .aload_n 0, 1), (40, .getfield 82, 3), (43, .iload_n 1, 1), (44, .aload_n 0, 1), (45, .iconst 1, 1), (46, .bipush 9, 2), (48, .invokevirtual 289, 3), (51, .iastore, 1), (52, .aload_n 0, 1), (53, .iconst 4, 1), (54, .invokevirtual 270, 3), (57, .aload_n 0, 1), (58, .getfield 206, 3), (61, .ifCond .ne 16, 3), (64, .aload_n 0, 1)]
set_option maxRecDepth 100000 in
theorem dec_X12_tellSleeper_0 : dcs cX12_tellSleeper DL_X12_tellSleeper_0 = true := by decide +kernel
def DL_X12_tellSleeper_1 : List (Nat × Instr × Nat) := [(65, .getfield 73, 3), (68, .aload_n 0, 1), (69, .getfield 239, 3), (72, .dup2, 1), (73, .iaload, 1), (74, .iconst 1, 1), (75, .iadd, 1), (76, .iastore, 1), (77, .return_, 1)]
set_option maxRecDepth 100000 in
theorem dec_X12_tellSleeper_1 : dcs cX12_tellSleeper DL_X12_tellSleeper_1 = true := by decide +kernel
theorem lb_X12_tellSleeper : lkB yX12_tellSleeper cX12_tellSleeper 2 (none) 0 := ⟨q_1337, q_14, ⟨by decide, by decide⟩, by decide +kernel⟩
theorem lv_X12_tellSleeper : lkV yX12_tellSleeper := ⟨q_1336, qs_92⟩
def F_X12_tellSleeper_77  (σ : hSt) : Option (hSt) :=
some (σ)
def F_X12_tellSleeper (a0 : Nat) (σ : hSt) : Option (hSt) :=
cR (σ.2.2 a0 32) (okr kM NM 101) fun z1 =>
cG (inb (σ.1 a0 19) (kM z1).2) <|
cL (((4 : Int32) * (σ.1 a0 19)) + (σ.1 z1 (σ.1 a0 19).toNatClampNeg)) fun v3 =>
cR (σ.2.2 a0 33) (okr kM NM 101) fun z4 =>
cC (F_X12_known a0 (0 : Int32) σ) fun v6 σ7 =>
cG (inb v3 (kM z4).2) <|
cL (uI σ7 z4 v3.toNatClampNeg v6) fun σ9 =>
cR (σ9.2.2 a0 34) (okr kM NM 101) fun z10 =>
cC (F_X12_known a0 (1 : Int32) σ9) fun v12 σ13 =>
cG (inb v3 (kM z10).2) <|
cL (uI σ13 z10 v3.toNatClampNeg v12) fun σ15 =>
cR (σ15.2.2 a0 35) (okr kM NM 101) fun z16 =>
cC (F_X12_bounded a0 (1 : Int32) (9 : Int32) σ15) fun v18 σ19 =>
cG (inb v3 (kM z16).2) <|
cL (uI σ19 z16 v3.toNatClampNeg v18) fun σ21 =>
(F_X12_must a0 (4 : Int32) σ21).bind fun σ23 =>
if (σ23.1 a0 13) = 0 then (
cR (σ23.2.2 a0 32) (okr kM NM 101) fun z24 =>
cL (σ23.1 a0 19) fun v25 =>
cG (inb v25 (kM z24).2) <|
cG (inb v25 (kM z24).2) <|
cL (uI σ23 z24 v25.toNatClampNeg ((σ23.1 z24 v25.toNatClampNeg) + (1 : Int32))) fun σ28 =>
F_X12_tellSleeper_77  σ28) else (
F_X12_tellSleeper_77  σ23)
section
variable {p : Program} {l : Launch} {e : Env} {s : State} {m : MethodId} {args : Array Value} {below : List Frame} {meth : Method} {c : Code} {D : va_G} {ay : Nat → ClassId} {ad : Nat → Nat}
set_option maxRecDepth 100000 in
set_option maxHeartbeats 4000000 in
theorem B_X12_tellSleeper_77 {H : Heap} {locs : List Loc} {ls : Array Slot} {σ0 : hSt}  (σ : hSt) (G : Gx p m c cX12_tellSleeper 2 s args RX12 D ay NM ad (aN NM ad)) (hm : meth.sig.returnType = none ∧ meth.locks = false)  (hf : F_X12_tellSleeper_77  σ = some σ0)  (w : Wd D ay kM NM ad (aN NM ad) s σ H locs) (hl : lv_has ls 2 []) : W p l e (rmK 4 85) s m args below meth c H locs 0 0 (MQ below (cV D ay kM NM ad σ0) args s 0 0 (aN NM ad)) (F0 m 77 ls []) := by
  unfold F_X12_tellSleeper_77 at hf
  have e9 := Option.some.inj hf
  exact r_vret G w hm e9 (dcs_get dec_X12_tellSleeper_1 8 rfl)
set_option maxRecDepth 100000 in
set_option maxHeartbeats 4000000 in
theorem B_X12_tellSleeper_0 {H : Heap} {locs : List Loc} {ls : Array Slot} {σ0 : hSt} (a0 : Nat) (σ : hSt) (G : Gx p m c cX12_tellSleeper 2 s args RX12 D ay NM ad (aN NM ad)) (hm : meth.sig.returnType = none ∧ meth.locks = false) (ok_a0 : okr kM NM 12 a0 = true) (hf : F_X12_tellSleeper a0 σ = some σ0)  (w : Wd D ay kM NM ad (aN NM ad) s σ H locs) (hl : lv_has ls 2 [(0, .ref (ad a0))]) : W p l e (rmK 4 85) s m args below meth c H locs 0 0 (MQ below (cV D ay kM NM ad σ0) args s 0 0 (aN NM ad)) (F0 m 0 ls []) := by
  have k_a0 := okr_in ok_a0
  unfold F_X12_tellSleeper at hf
  refine lv_iconst (v := (4 : Int32)) G.hx G.hb (dcs_get dec_X12_tellSleeper_0 0 rfl) (by decide) ?_
  refine lv_aload_n G.hx G.hb (dcs_get dec_X12_tellSleeper_0 1 rfl) rfl (lv_at hl 0 rfl) ?_
  refine r_geti (k := 19) cls12 fi_12_19.1 fi_12_19.2 q_1027 G w k_a0.1 k_a0.2 (dcs_get dec_X12_tellSleeper_0 2 rfl) ?_
  refine lv_imul G.hx G.hb (dcs_get dec_X12_tellSleeper_0 3 rfl) ?_
  refine lv_aload_n G.hx G.hb (dcs_get dec_X12_tellSleeper_0 4 rfl) rfl (lv_at hl 0 rfl) ?_
  obtain ⟨z1, e_z1, ok_z1, hf⟩ := cR_some hf
  have k_z1 := okr_in ok_z1
  refine r_getr (k := 32) cls12 fi_12_32.1 fi_12_32.2 q_1040 G w k_a0.1 k_a0.2 e_z1 (dcs_get dec_X12_tellSleeper_0 5 rfl) ?_
  refine lv_aload_n G.hx G.hb (dcs_get dec_X12_tellSleeper_0 6 rfl) rfl (lv_at hl 0 rfl) ?_
  refine r_geti (k := 19) cls12 fi_12_19.1 fi_12_19.2 q_1027 G w k_a0.1 k_a0.2 (dcs_get dec_X12_tellSleeper_0 7 rfl) ?_
  obtain ⟨h2, hf⟩ := cG_some hf
  refine r_iald G w k_z1.1 k_z1.2 h2 (dcs_get dec_X12_tellSleeper_0 8 rfl) ?_
  refine lv_iadd G.hx G.hb (dcs_get dec_X12_tellSleeper_0 9 rfl) ?_
  obtain ⟨v3, e_v3, hf⟩ := cL_some hf
  refine r_topi e_v3 ?_
  refine lv_istore_n (lv' := [(1, .int v3), (0, .ref (ad a0))]) G.hx G.hb (dcs_get dec_X12_tellSleeper_0 10 rfl) rfl hl (by decide) rfl (fun ls hl => ?_)
  refine lv_aload_n G.hx G.hb (dcs_get dec_X12_tellSleeper_0 11 rfl) rfl (lv_at hl 1 rfl) ?_
  obtain ⟨z4, e_z4, ok_z4, hf⟩ := cR_some hf
  have k_z4 := okr_in ok_z4
  refine r_getr (k := 33) cls12 fi_12_33.1 fi_12_33.2 q_1041 G w k_a0.1 k_a0.2 e_z4 (dcs_get dec_X12_tellSleeper_0 12 rfl) ?_
  refine lv_iload_n G.hx G.hb (dcs_get dec_X12_tellSleeper_0 13 rfl) rfl (lv_at hl 0 rfl) ?_
  refine lv_aload_n G.hx G.hb (dcs_get dec_X12_tellSleeper_0 14 rfl) rfl (lv_at hl 1 rfl) ?_
  refine lv_iconst (v := (0 : Int32)) G.hx G.hb (dcs_get dec_X12_tellSleeper_0 15 rfl) (by decide) ?_
  obtain ⟨v6, σ7, h5, hf⟩ := cC_some hf
  refine a_i (k_V (As := [.int (0 : Int32)]) (rest := [.int v3, .ref (ad z4)]) cls12 lb_X12_known lv_X12_known q_1302 (C_X12_known G.2.2.1 a0 (0 : Int32) σ h5 ok_a0) ⟨(Nat.le_of_ble_eq_true rfl), (Nat.le_of_ble_eq_true rfl)⟩ G w k_a0.1 k_a0.2 rfl rfl hl.1 (Nat.le_of_ble_eq_true rfl) (dcs_get dec_X12_tellSleeper_0 16 rfl) ⟨Nat.le_refl _, Nat.le_refl _⟩) G w (fun H locs w => ?_)
  obtain ⟨h8, hf⟩ := cG_some hf
  obtain ⟨σ9, e_σ9, hf⟩ := cL_some hf
  refine r_iast G w k_z4.1 k_z4.2 h8 (dcs_get dec_X12_tellSleeper_0 17 rfl) (fun H locs w => ?_)
  have w := Wd.nm e_σ9 w
  refine lv_aload_n G.hx G.hb (dcs_get dec_X12_tellSleeper_0 18 rfl) rfl (lv_at hl 1 rfl) ?_
  obtain ⟨z10, e_z10, ok_z10, hf⟩ := cR_some hf
  have k_z10 := okr_in ok_z10
  refine r_getr (k := 34) cls12 fi_12_34.1 fi_12_34.2 q_1042 G w k_a0.1 k_a0.2 e_z10 (dcs_get dec_X12_tellSleeper_0 19 rfl) ?_
  refine lv_iload_n G.hx G.hb (dcs_get dec_X12_tellSleeper_0 20 rfl) rfl (lv_at hl 0 rfl) ?_
  refine lv_aload_n G.hx G.hb (dcs_get dec_X12_tellSleeper_0 21 rfl) rfl (lv_at hl 1 rfl) ?_
  refine lv_iconst (v := (1 : Int32)) G.hx G.hb (dcs_get dec_X12_tellSleeper_0 22 rfl) (by decide) ?_
  obtain ⟨v12, σ13, h11, hf⟩ := cC_some hf
  refine a_i (k_V (As := [.int (1 : Int32)]) (rest := [.int v3, .ref (ad z10)]) cls12 lb_X12_known lv_X12_known q_1302 (C_X12_known G.2.2.1 a0 (1 : Int32) σ9 h11 ok_a0) ⟨(Nat.le_of_ble_eq_true rfl), (Nat.le_of_ble_eq_true rfl)⟩ G w k_a0.1 k_a0.2 rfl rfl hl.1 (Nat.le_of_ble_eq_true rfl) (dcs_get dec_X12_tellSleeper_0 23 rfl) ⟨Nat.le_refl _, Nat.le_refl _⟩) G w (fun H locs w => ?_)
  obtain ⟨h14, hf⟩ := cG_some hf
  obtain ⟨σ15, e_σ15, hf⟩ := cL_some hf
  refine r_iast G w k_z10.1 k_z10.2 h14 (dcs_get dec_X12_tellSleeper_0 24 rfl) (fun H locs w => ?_)
  have w := Wd.nm e_σ15 w
  refine lv_aload_n G.hx G.hb (dcs_get dec_X12_tellSleeper_0 25 rfl) rfl (lv_at hl 1 rfl) ?_
  obtain ⟨z16, e_z16, ok_z16, hf⟩ := cR_some hf
  have k_z16 := okr_in ok_z16
  refine r_getr (k := 35) cls12 fi_12_35.1 fi_12_35.2 q_1043 G w k_a0.1 k_a0.2 e_z16 (dcs_get dec_X12_tellSleeper_0 26 rfl) ?_
  refine lv_iload_n G.hx G.hb (dcs_get dec_X12_tellSleeper_0 27 rfl) rfl (lv_at hl 0 rfl) ?_
  refine lv_aload_n G.hx G.hb (dcs_get dec_X12_tellSleeper_0 28 rfl) rfl (lv_at hl 1 rfl) ?_
  refine lv_iconst (v := (1 : Int32)) G.hx G.hb (dcs_get dec_X12_tellSleeper_0 29 rfl) (by decide) ?_
  refine lv_bipush (v := (9 : Int32)) G.hx G.hb (dcs_get dec_X12_tellSleeper_0 30 rfl) (by decide) ?_
  obtain ⟨v18, σ19, h17, hf⟩ := cC_some hf
  refine a_i (k_V (As := [.int (1 : Int32), .int (9 : Int32)]) (rest := [.int v3, .ref (ad z16)]) cls12 lb_X12_bounded lv_X12_bounded q_1290 (C_X12_bounded G.2.2.1 a0 (1 : Int32) (9 : Int32) σ15 h17 ok_a0) ⟨(Nat.le_of_ble_eq_true rfl), (Nat.le_of_ble_eq_true rfl)⟩ G w k_a0.1 k_a0.2 rfl rfl hl.1 (Nat.le_of_ble_eq_true rfl) (dcs_get dec_X12_tellSleeper_0 31 rfl) ⟨Nat.le_refl _, Nat.le_refl _⟩) G w (fun H locs w => ?_)
  obtain ⟨h20, hf⟩ := cG_some hf
  obtain ⟨σ21, e_σ21, hf⟩ := cL_some hf
  refine r_iast G w k_z16.1 k_z16.2 h20 (dcs_get dec_X12_tellSleeper_0 32 rfl) (fun H locs w => ?_)
  have w := Wd.nm e_σ21 w
  refine lv_aload_n G.hx G.hb (dcs_get dec_X12_tellSleeper_0 33 rfl) rfl (lv_at hl 1 rfl) ?_
  refine lv_iconst (v := (4 : Int32)) G.hx G.hb (dcs_get dec_X12_tellSleeper_0 34 rfl) (by decide) ?_
  obtain ⟨σ23, h22, hf⟩ := cB_some hf
  refine a_v (k_V (As := [.int (4 : Int32)]) (rest := []) cls12 lb_X12_must lv_X12_must q_1282 (C_X12_must G.2.2.1 a0 (4 : Int32) σ21 h22 ok_a0) ⟨(Nat.le_of_ble_eq_true rfl), (Nat.le_of_ble_eq_true rfl)⟩ G w k_a0.1 k_a0.2 rfl rfl hl.1 (Nat.le_of_ble_eq_true rfl) (dcs_get dec_X12_tellSleeper_0 35 rfl) ⟨Nat.le_refl _, Nat.le_refl _⟩) G w (fun H locs w => ?_)
  refine lv_aload_n G.hx G.hb (dcs_get dec_X12_tellSleeper_0 36 rfl) rfl (lv_at hl 1 rfl) ?_
  refine r_geti (k := 13) cls12 fi_12_13.1 fi_12_13.2 q_1021 G w k_a0.1 k_a0.2 (dcs_get dec_X12_tellSleeper_0 37 rfl) ?_
  refine lv_if_ne (tgt := 77) G.hx G.hb (dcs_get dec_X12_tellSleeper_0 38 rfl) (by decide) (fun hc => ?_) (fun hc => ?_)
  · rw [if_neg hc] at hf
    exact B_X12_tellSleeper_77  σ23 G hm  hf  w (lv_sub hl [] rfl)
  · rw [if_pos hc] at hf
    refine lv_aload_n G.hx G.hb (dcs_get dec_X12_tellSleeper_0 39 rfl) rfl (lv_at hl 1 rfl) ?_
    obtain ⟨z24, e_z24, ok_z24, hf⟩ := cR_some hf
    have k_z24 := okr_in ok_z24
    refine r_getr (k := 32) cls12 fi_12_32.1 fi_12_32.2 q_1040 G w k_a0.1 k_a0.2 e_z24 (dcs_get dec_X12_tellSleeper_1 0 rfl) ?_
    refine lv_aload_n G.hx G.hb (dcs_get dec_X12_tellSleeper_1 1 rfl) rfl (lv_at hl 1 rfl) ?_
    refine r_geti (k := 19) cls12 fi_12_19.1 fi_12_19.2 q_1027 G w k_a0.1 k_a0.2 (dcs_get dec_X12_tellSleeper_1 2 rfl) ?_
    obtain ⟨v25, e_v25, hf⟩ := cL_some hf
    refine r_topi e_v25 ?_
    refine lv_dup2_11 G.hx G.hb (dcs_get dec_X12_tellSleeper_1 3 rfl) rfl rfl ?_
    obtain ⟨h26, hf⟩ := cG_some hf
    refine r_iald G w k_z24.1 k_z24.2 h26 (dcs_get dec_X12_tellSleeper_1 4 rfl) ?_
    refine lv_iconst (v := (1 : Int32)) G.hx G.hb (dcs_get dec_X12_tellSleeper_1 5 rfl) (by decide) ?_
    refine lv_iadd G.hx G.hb (dcs_get dec_X12_tellSleeper_1 6 rfl) ?_
    obtain ⟨h27, hf⟩ := cG_some hf
    obtain ⟨σ28, e_σ28, hf⟩ := cL_some hf
    refine r_iast G w k_z24.1 k_z24.2 h27 (dcs_get dec_X12_tellSleeper_1 7 rfl) (fun H locs w => ?_)
    have w := Wd.nm e_σ28 w
    exact B_X12_tellSleeper_77  σ28 G hm  hf  w (lv_sub hl [] rfl)
end
set_option maxRecDepth 100000 in
set_option maxHeartbeats 4000000 in
theorem C_X12_tellSleeper {l : Launch} {D : va_G} {ay : Nat → ClassId} {ad : Nat → Nat} (hi : hInj NM ad) (a0 : Nat) (σ : hSt) {σ0 : hSt} (hf : F_X12_tellSleeper a0 σ = some σ0) (ok_a0 : okr kM NM 12 a0 = true) : hM l D ay kM NM ad yX12_tellSleeper cX12_tellSleeper 2 (none) (rmK 4 85) [.ref (ad a0)] σ (cV D ay kM NM ad σ0) := by
  refine hM_in (by decide) hi (Nat.le_of_ble_eq_true rfl) ?_
  intro p e s m below meth c G hm w ls hl
  exact B_X12_tellSleeper_0 a0 σ G hm ok_a0 hf w (lv_sub hl [0] rfl)

/-! HillDrumsModel.tell()V -/
def DL_X12_tell_0 : List (Nat × Instr × Nat) := [(0, .aload_n 0, 1), (1, .getfield 20, 3), (4, .aload_n 0, 1), (5, .getfield 209, 3), (8, .iaload, 1), (9, .tableswitch 268 20 31 #[63, 92, 268, 120, 136, 136, 168, 268, 268, 268, 268, 240], 63), (72, .aload_n 0, 1), (73, .aload_n 0, 1), (74, .getfield 49, 3), (77, .aload_n 0, 1), (78, .getfield 239, 3), (81, .iaload, 1), (82, .bipush 6, 2), (84, .invokevirtual 260, 3), (87, .aload_n 0, 1), (88, .getfield 206, 3), (91, .ifCond .ne 191, 3), (94, .aload_n 0, 1), (95, .invokevirtual 264, 3), (98, .goto 184, 3), (101, .aload_n 0, 1), (102, .aload_n 0, 1), (103, .getfield 58, 3), (106, .aload_n 0, 1), (107, .getfield 239, 3), (110, .iaload, 1), (111, .iconst 4, 1), (112, .invokevirtual 260, 3), (115, .aload_n 0, 1), (116, .getfield 206, 3), (119, .ifCond .ne 163, 3), (122, .aload_n 0, 1), (123, .invokevirtual 267, 3), (126, .goto 156, 3), (129, .aload_n 0, 1), (130, .invokevirtual 227, 3), (133, .aload_n 0, 1), (134, .iconst 5, 1), (135, .invokevirtual 270, 3), (138, .aload_n 0, 1)]
set_option maxRecDepth 100000 in
theorem dec_X12_tell_0 : dcs cX12_tell DL_X12_tell_0 = true := by decide +kernel
def DL_X12_tell_1 : List (Nat × Instr × Nat) := [(139, .invokevirtual 273, 3), (142, .goto 140, 3), (145, .iconst 2, 1), (146, .aload_n 0, 1), (147, .getfield 239, 3), (150, .imul, 1), (151, .aload_n 0, 1), (152, .getfield 20, 3), (155, .aload_n 0, 1), (156, .getfield 209, 3), (159, .iaload, 1), (160, .iadd, 1), (161, .bipush 24, 2), (163, .isub, 1), (164, .istore_n 1, 1), (165, .aload_n 0, 1), (166, .invokevirtual 227, 3), (169, .aload_n 0, 1), (170, .iload_n 1, 1), (171, .invokevirtual 276, 3), (174, .goto 108, 3), (177, .aload_n 0, 1), (178, .invokevirtual 227, 3), (181, .aload_n 0, 1), (182, .getfield 206, 3), (185, .ifCond .le 7, 3), (188, .iconst (-1), 1), (189, .goto 15, 3), (192, .aload_n 0, 1), (193, .getfield 20, 3), (196, .aload_n 0, 1), (197, .getfield 209, 3), (200, .iaload, 1), (201, .bipush 27, 2), (203, .isub, 1), (204, .istore_n 1, 1), (205, .iload_n 1, 1), (206, .ifCond .lt 8, 3), (209, .iload_n 1, 1), (210, .iconst 3, 1)]
set_option maxRecDepth 100000 in
theorem dec_X12_tell_1 : dcs cX12_tell DL_X12_tell_1 = true := by decide +kernel
def DL_X12_tell_2 : List (Nat × Instr × Nat) := [(211, .if_icmp .le 8, 3), (214, .aload_n 0, 1), (215, .iconst 1, 1), (216, .invokevirtual 221, 3), (219, .aload_n 0, 1), (220, .getfield 206, 3), (223, .ifCond .le 4, 3), (226, .return_, 1), (227, .aload_n 0, 1), (228, .getfield 70, 3), (231, .aload_n 0, 1), (232, .getfield 239, 3), (235, .iload_n 1, 1), (236, .iastore, 1), (237, .aload_n 0, 1), (238, .invokevirtual 227, 3), (241, .aload_n 0, 1), (242, .iconst 4, 1), (243, .invokevirtual 270, 3), (246, .goto 36, 3), (249, .aload_n 0, 1), (250, .aload_n 0, 1), (251, .getfield 73, 3), (254, .aload_n 0, 1), (255, .getfield 239, 3), (258, .iaload, 1), (259, .iconst 4, 1), (260, .invokevirtual 260, 3), (263, .aload_n 0, 1), (264, .getfield 206, 3), (267, .ifCond .ne 15, 3), (270, .aload_n 0, 1), (271, .invokevirtual 279, 3), (274, .goto 8, 3), (277, .aload_n 0, 1), (278, .iconst 1, 1), (279, .invokevirtual 221, 3), (282, .return_, 1)]
set_option maxRecDepth 100000 in
theorem dec_X12_tell_2 : dcs cX12_tell DL_X12_tell_2 = true := by decide +kernel
theorem lb_X12_tell : lkB yX12_tell cX12_tell 2 (none) 0 := ⟨q_1261, q_14, ⟨by decide, by decide⟩, by decide +kernel⟩
theorem lv_X12_tell : lkV yX12_tell := ⟨q_1260, qs_73⟩
def F_X12_tell_282  (σ : hSt) : Option (hSt) :=
some (σ)
def F_X12_tell_277 (a0 : Nat) (σ : hSt) : Option (hSt) :=
(F_X12_fail a0 (1 : Int32) σ).bind fun σ2 =>
F_X12_tell_282  σ2
def F_X12_tell_219 (a0 : Nat) (l1 : Int32) (σ : hSt) : Option (hSt) :=
if (σ.1 a0 13) ≤ 0 then (
cR (σ.2.2 a0 31) (okr kM NM 101) fun z3 =>
cG (inb (σ.1 a0 19) (kM z3).2) <|
cL (uI σ z3 (σ.1 a0 19).toNatClampNeg l1) fun σ5 =>
(F_X12_goesOn a0 σ5).bind fun σ7 =>
(F_X12_must a0 (4 : Int32) σ7).bind fun σ9 =>
F_X12_tell_282  σ9) else (
some (σ))
def F_X12_tell_214 (a0 : Nat) (l1 : Int32) (σ : hSt) : Option (hSt) :=
(F_X12_fail a0 (1 : Int32) σ).bind fun σ11 =>
F_X12_tell_219 a0 l1 σ11
def F_X12_tell_204 (a0 : Nat) (s0 : Int32) (σ : hSt) : Option (hSt) :=
if s0 < 0 then (
F_X12_tell_214 a0 s0 σ) else (
if s0 ≤ (3 : Int32) then (
F_X12_tell_219 a0 s0 σ) else (
F_X12_tell_214 a0 s0 σ))
def F_X12_tell_145 (a0 : Nat) (σ : hSt) : Option (hSt) :=
cR (σ.2.2 a0 5) (okr kM NM 101) fun z12 =>
cG (inb (σ.1 a0 11) (kM z12).2) <|
cL ((((2 : Int32) * (σ.1 a0 19)) + (σ.1 z12 (σ.1 a0 11).toNatClampNeg)) - (24 : Int32)) fun v14 =>
(F_X12_goesOn a0 σ).bind fun σ16 =>
(F_X12_tellWeather a0 v14 σ16).bind fun σ18 =>
F_X12_tell_282  σ18
def F_X12_tell (a0 : Nat) (σ : hSt) : Option (hSt) :=
cR (σ.2.2 a0 5) (okr kM NM 101) fun z19 =>
cG (inb (σ.1 a0 11) (kM z19).2) <|
cL (σ.1 z19 (σ.1 a0 11).toNatClampNeg) fun v21 =>
if v21 = (20 : Int32) then (
cR (σ.2.2 a0 24) (okr kM NM 101) fun z22 =>
cG (inb (σ.1 a0 19) (kM z22).2) <|
(F_X12_roomFor a0 (σ.1 z22 (σ.1 a0 19).toNatClampNeg) (6 : Int32) σ).bind fun σ25 =>
if (σ25.1 a0 13) = 0 then (
(F_X12_tellHill a0 σ25).bind fun σ27 =>
F_X12_tell_282  σ27) else (
F_X12_tell_282  σ25)) else (
if v21 = (21 : Int32) then (
cR (σ.2.2 a0 27) (okr kM NM 101) fun z28 =>
cG (inb (σ.1 a0 19) (kM z28).2) <|
(F_X12_roomFor a0 (σ.1 z28 (σ.1 a0 19).toNatClampNeg) (4 : Int32) σ).bind fun σ31 =>
if (σ31.1 a0 13) = 0 then (
(F_X12_tellNews a0 σ31).bind fun σ33 =>
F_X12_tell_282  σ33) else (
F_X12_tell_282  σ31)) else (
if v21 = (22 : Int32) then (
F_X12_tell_277 a0 σ) else (
if v21 = (23 : Int32) then (
(F_X12_goesOn a0 σ).bind fun σ35 =>
(F_X12_must a0 (5 : Int32) σ35).bind fun σ37 =>
(F_X12_tellLaw a0 σ37).bind fun σ39 =>
F_X12_tell_282  σ39) else (
if v21 = (24 : Int32) then (
F_X12_tell_145 a0 σ) else (
if v21 = (25 : Int32) then (
F_X12_tell_145 a0 σ) else (
if v21 = (26 : Int32) then (
(F_X12_goesOn a0 σ).bind fun σ41 =>
if (σ41.1 a0 13) ≤ 0 then (
cR (σ41.2.2 a0 5) (okr kM NM 101) fun z42 =>
cG (inb (σ41.1 a0 11) (kM z42).2) <|
F_X12_tell_204 a0 ((σ41.1 z42 (σ41.1 a0 11).toNatClampNeg) - (27 : Int32)) σ41) else (
F_X12_tell_204 a0 (-1 : Int32) σ41)) else (
if v21 = (27 : Int32) then (
F_X12_tell_277 a0 σ) else (
if v21 = (28 : Int32) then (
F_X12_tell_277 a0 σ) else (
if v21 = (29 : Int32) then (
F_X12_tell_277 a0 σ) else (
if v21 = (30 : Int32) then (
F_X12_tell_277 a0 σ) else (
if v21 = (31 : Int32) then (
cR (σ.2.2 a0 32) (okr kM NM 101) fun z44 =>
cG (inb (σ.1 a0 19) (kM z44).2) <|
(F_X12_roomFor a0 (σ.1 z44 (σ.1 a0 19).toNatClampNeg) (4 : Int32) σ).bind fun σ47 =>
if (σ47.1 a0 13) = 0 then (
(F_X12_tellSleeper a0 σ47).bind fun σ49 =>
F_X12_tell_282  σ49) else (
F_X12_tell_282  σ47)) else (
F_X12_tell_277 a0 σ))))))))))))
section
variable {p : Program} {l : Launch} {e : Env} {s : State} {m : MethodId} {args : Array Value} {below : List Frame} {meth : Method} {c : Code} {D : va_G} {ay : Nat → ClassId} {ad : Nat → Nat}
set_option maxRecDepth 100000 in
set_option maxHeartbeats 4000000 in
theorem B_X12_tell_282 {H : Heap} {locs : List Loc} {ls : Array Slot} {σ0 : hSt}  (σ : hSt) (G : Gx p m c cX12_tell 2 s args RX12 D ay NM ad (aN NM ad)) (hm : meth.sig.returnType = none ∧ meth.locks = false)  (hf : F_X12_tell_282  σ = some σ0)  (w : Wd D ay kM NM ad (aN NM ad) s σ H locs) (hl : lv_has ls 2 []) : W p l e (rmK 6 125) s m args below meth c H locs 0 0 (MQ below (cV D ay kM NM ad σ0) args s 0 0 (aN NM ad)) (F0 m 282 ls []) := by
  unfold F_X12_tell_282 at hf
  have e9 := Option.some.inj hf
  exact r_vret G w hm e9 (dcs_get dec_X12_tell_2 37 rfl)
set_option maxRecDepth 100000 in
set_option maxHeartbeats 4000000 in
theorem B_X12_tell_277 {H : Heap} {locs : List Loc} {ls : Array Slot} {σ0 : hSt} (a0 : Nat) (σ : hSt) (G : Gx p m c cX12_tell 2 s args RX12 D ay NM ad (aN NM ad)) (hm : meth.sig.returnType = none ∧ meth.locks = false) (ok_a0 : okr kM NM 12 a0 = true) (hf : F_X12_tell_277 a0 σ = some σ0)  (w : Wd D ay kM NM ad (aN NM ad) s σ H locs) (hl : lv_has ls 2 [(0, .ref (ad a0))]) : W p l e (rmK 6 125) s m args below meth c H locs 0 0 (MQ below (cV D ay kM NM ad σ0) args s 0 0 (aN NM ad)) (F0 m 277 ls []) := by
  have k_a0 := okr_in ok_a0
  unfold F_X12_tell_277 at hf
  refine lv_aload_n G.hx G.hb (dcs_get dec_X12_tell_2 34 rfl) rfl (lv_at hl 0 rfl) ?_
  refine lv_iconst (v := (1 : Int32)) G.hx G.hb (dcs_get dec_X12_tell_2 35 rfl) (by decide) ?_
  obtain ⟨σ2, h1, hf⟩ := cB_some hf
  refine a_v (k_V (As := [.int (1 : Int32)]) (rest := []) cls12 lb_X12_fail lv_X12_fail q_1266 (C_X12_fail G.2.2.1 a0 (1 : Int32) σ h1 ok_a0) ⟨(Nat.le_of_ble_eq_true rfl), (Nat.le_of_ble_eq_true rfl)⟩ G w k_a0.1 k_a0.2 rfl rfl hl.1 (Nat.le_of_ble_eq_true rfl) (dcs_get dec_X12_tell_2 36 rfl) ⟨Nat.le_refl _, Nat.le_refl _⟩) G w (fun H locs w => ?_)
  exact B_X12_tell_282  σ2 G hm  hf  w (lv_sub hl [] rfl)
set_option maxRecDepth 100000 in
set_option maxHeartbeats 4000000 in
theorem B_X12_tell_219 {H : Heap} {locs : List Loc} {ls : Array Slot} {σ0 : hSt} (a0 : Nat) (l1 : Int32) (σ : hSt) (G : Gx p m c cX12_tell 2 s args RX12 D ay NM ad (aN NM ad)) (hm : meth.sig.returnType = none ∧ meth.locks = false) (ok_a0 : okr kM NM 12 a0 = true) (hf : F_X12_tell_219 a0 l1 σ = some σ0)  (w : Wd D ay kM NM ad (aN NM ad) s σ H locs) (hl : lv_has ls 2 [(0, .ref (ad a0)), (1, .int l1)]) : W p l e (rmK 6 125) s m args below meth c H locs 0 0 (MQ below (cV D ay kM NM ad σ0) args s 0 0 (aN NM ad)) (F0 m 219 ls []) := by
  have k_a0 := okr_in ok_a0
  unfold F_X12_tell_219 at hf
  refine lv_aload_n G.hx G.hb (dcs_get dec_X12_tell_2 4 rfl) rfl (lv_at hl 0 rfl) ?_
  refine r_geti (k := 13) cls12 fi_12_13.1 fi_12_13.2 q_1021 G w k_a0.1 k_a0.2 (dcs_get dec_X12_tell_2 5 rfl) ?_
  refine lv_if_le (tgt := 227) G.hx G.hb (dcs_get dec_X12_tell_2 6 rfl) (by decide) (fun hc => ?_) (fun hc => ?_)
  · rw [if_pos hc] at hf
    refine lv_aload_n G.hx G.hb (dcs_get dec_X12_tell_2 8 rfl) rfl (lv_at hl 0 rfl) ?_
    obtain ⟨z3, e_z3, ok_z3, hf⟩ := cR_some hf
    have k_z3 := okr_in ok_z3
    refine r_getr (k := 31) cls12 fi_12_31.1 fi_12_31.2 q_1039 G w k_a0.1 k_a0.2 e_z3 (dcs_get dec_X12_tell_2 9 rfl) ?_
    refine lv_aload_n G.hx G.hb (dcs_get dec_X12_tell_2 10 rfl) rfl (lv_at hl 0 rfl) ?_
    refine r_geti (k := 19) cls12 fi_12_19.1 fi_12_19.2 q_1027 G w k_a0.1 k_a0.2 (dcs_get dec_X12_tell_2 11 rfl) ?_
    refine lv_iload_n G.hx G.hb (dcs_get dec_X12_tell_2 12 rfl) rfl (lv_at hl 1 rfl) ?_
    obtain ⟨h4, hf⟩ := cG_some hf
    obtain ⟨σ5, e_σ5, hf⟩ := cL_some hf
    refine r_iast G w k_z3.1 k_z3.2 h4 (dcs_get dec_X12_tell_2 13 rfl) (fun H locs w => ?_)
    have w := Wd.nm e_σ5 w
    refine lv_aload_n G.hx G.hb (dcs_get dec_X12_tell_2 14 rfl) rfl (lv_at hl 0 rfl) ?_
    obtain ⟨σ7, h6, hf⟩ := cB_some hf
    refine a_v (k_V (As := []) (rest := []) cls12 lb_X12_goesOn lv_X12_goesOn q_1270 (C_X12_goesOn G.2.2.1 a0 σ5 h6 ok_a0) ⟨(Nat.le_of_ble_eq_true rfl), (Nat.le_of_ble_eq_true rfl)⟩ G w k_a0.1 k_a0.2 rfl rfl hl.1 (Nat.le_of_ble_eq_true rfl) (dcs_get dec_X12_tell_2 15 rfl) ⟨Nat.le_refl _, Nat.le_refl _⟩) G w (fun H locs w => ?_)
    refine lv_aload_n G.hx G.hb (dcs_get dec_X12_tell_2 16 rfl) rfl (lv_at hl 0 rfl) ?_
    refine lv_iconst (v := (4 : Int32)) G.hx G.hb (dcs_get dec_X12_tell_2 17 rfl) (by decide) ?_
    obtain ⟨σ9, h8, hf⟩ := cB_some hf
    refine a_v (k_V (As := [.int (4 : Int32)]) (rest := []) cls12 lb_X12_must lv_X12_must q_1282 (C_X12_must G.2.2.1 a0 (4 : Int32) σ7 h8 ok_a0) ⟨(Nat.le_of_ble_eq_true rfl), (Nat.le_of_ble_eq_true rfl)⟩ G w k_a0.1 k_a0.2 rfl rfl hl.1 (Nat.le_of_ble_eq_true rfl) (dcs_get dec_X12_tell_2 18 rfl) ⟨Nat.le_refl _, Nat.le_refl _⟩) G w (fun H locs w => ?_)
    refine lv_goto (tgt := 282) G.hx G.hb (dcs_get dec_X12_tell_2 19 rfl) (by decide) ?_
    exact B_X12_tell_282  σ9 G hm  hf  w (lv_sub hl [] rfl)
  · rw [if_neg hc] at hf
    have e9 := Option.some.inj hf
    exact r_vret G w hm e9 (dcs_get dec_X12_tell_2 7 rfl)
set_option maxRecDepth 100000 in
set_option maxHeartbeats 4000000 in
theorem B_X12_tell_214 {H : Heap} {locs : List Loc} {ls : Array Slot} {σ0 : hSt} (a0 : Nat) (l1 : Int32) (σ : hSt) (G : Gx p m c cX12_tell 2 s args RX12 D ay NM ad (aN NM ad)) (hm : meth.sig.returnType = none ∧ meth.locks = false) (ok_a0 : okr kM NM 12 a0 = true) (hf : F_X12_tell_214 a0 l1 σ = some σ0)  (w : Wd D ay kM NM ad (aN NM ad) s σ H locs) (hl : lv_has ls 2 [(0, .ref (ad a0)), (1, .int l1)]) : W p l e (rmK 6 125) s m args below meth c H locs 0 0 (MQ below (cV D ay kM NM ad σ0) args s 0 0 (aN NM ad)) (F0 m 214 ls []) := by
  have k_a0 := okr_in ok_a0
  unfold F_X12_tell_214 at hf
  refine lv_aload_n G.hx G.hb (dcs_get dec_X12_tell_2 1 rfl) rfl (lv_at hl 0 rfl) ?_
  refine lv_iconst (v := (1 : Int32)) G.hx G.hb (dcs_get dec_X12_tell_2 2 rfl) (by decide) ?_
  obtain ⟨σ11, h10, hf⟩ := cB_some hf
  refine a_v (k_V (As := [.int (1 : Int32)]) (rest := []) cls12 lb_X12_fail lv_X12_fail q_1266 (C_X12_fail G.2.2.1 a0 (1 : Int32) σ h10 ok_a0) ⟨(Nat.le_of_ble_eq_true rfl), (Nat.le_of_ble_eq_true rfl)⟩ G w k_a0.1 k_a0.2 rfl rfl hl.1 (Nat.le_of_ble_eq_true rfl) (dcs_get dec_X12_tell_2 3 rfl) ⟨Nat.le_refl _, Nat.le_refl _⟩) G w (fun H locs w => ?_)
  exact B_X12_tell_219 a0 l1 σ11 G hm ok_a0 hf  w (lv_sub hl [0, 1] rfl)
set_option maxRecDepth 100000 in
set_option maxHeartbeats 4000000 in
theorem B_X12_tell_204 {H : Heap} {locs : List Loc} {ls : Array Slot} {σ0 : hSt} (a0 : Nat) (s0 : Int32) (σ : hSt) (G : Gx p m c cX12_tell 2 s args RX12 D ay NM ad (aN NM ad)) (hm : meth.sig.returnType = none ∧ meth.locks = false) (ok_a0 : okr kM NM 12 a0 = true) (hf : F_X12_tell_204 a0 s0 σ = some σ0)  (w : Wd D ay kM NM ad (aN NM ad) s σ H locs) (hl : lv_has ls 2 [(0, .ref (ad a0))]) : W p l e (rmK 6 125) s m args below meth c H locs 0 0 (MQ below (cV D ay kM NM ad σ0) args s 0 0 (aN NM ad)) (F0 m 204 ls [.int s0]) := by
  have k_a0 := okr_in ok_a0
  unfold F_X12_tell_204 at hf
  refine lv_istore_n (lv' := [(1, .int s0), (0, .ref (ad a0))]) G.hx G.hb (dcs_get dec_X12_tell_1 35 rfl) rfl hl (by decide) rfl (fun ls hl => ?_)
  refine lv_iload_n G.hx G.hb (dcs_get dec_X12_tell_1 36 rfl) rfl (lv_at hl 0 rfl) ?_
  refine lv_if_lt (tgt := 214) G.hx G.hb (dcs_get dec_X12_tell_1 37 rfl) (by decide) (fun hc => ?_) (fun hc => ?_)
  · rw [if_pos hc] at hf
    exact B_X12_tell_214 a0 s0 σ G hm ok_a0 hf  w (lv_sub hl [1, 0] rfl)
  · rw [if_neg hc] at hf
    refine lv_iload_n G.hx G.hb (dcs_get dec_X12_tell_1 38 rfl) rfl (lv_at hl 0 rfl) ?_
    refine lv_iconst (v := (3 : Int32)) G.hx G.hb (dcs_get dec_X12_tell_1 39 rfl) (by decide) ?_
    refine lv_icmp_le (tgt := 219) G.hx G.hb (dcs_get dec_X12_tell_2 0 rfl) (by decide) (fun hc => ?_) (fun hc => ?_)
    · rw [if_pos hc] at hf
      exact B_X12_tell_219 a0 s0 σ G hm ok_a0 hf  w (lv_sub hl [1, 0] rfl)
    · rw [if_neg hc] at hf
      exact B_X12_tell_214 a0 s0 σ G hm ok_a0 hf  w (lv_sub hl [1, 0] rfl)
set_option maxRecDepth 100000 in
set_option maxHeartbeats 4000000 in
theorem B_X12_tell_145 {H : Heap} {locs : List Loc} {ls : Array Slot} {σ0 : hSt} (a0 : Nat) (σ : hSt) (G : Gx p m c cX12_tell 2 s args RX12 D ay NM ad (aN NM ad)) (hm : meth.sig.returnType = none ∧ meth.locks = false) (ok_a0 : okr kM NM 12 a0 = true) (hf : F_X12_tell_145 a0 σ = some σ0)  (w : Wd D ay kM NM ad (aN NM ad) s σ H locs) (hl : lv_has ls 2 [(0, .ref (ad a0))]) : W p l e (rmK 6 125) s m args below meth c H locs 0 0 (MQ below (cV D ay kM NM ad σ0) args s 0 0 (aN NM ad)) (F0 m 145 ls []) := by
  have k_a0 := okr_in ok_a0
  unfold F_X12_tell_145 at hf
  refine lv_iconst (v := (2 : Int32)) G.hx G.hb (dcs_get dec_X12_tell_1 2 rfl) (by decide) ?_
  refine lv_aload_n G.hx G.hb (dcs_get dec_X12_tell_1 3 rfl) rfl (lv_at hl 0 rfl) ?_
  refine r_geti (k := 19) cls12 fi_12_19.1 fi_12_19.2 q_1027 G w k_a0.1 k_a0.2 (dcs_get dec_X12_tell_1 4 rfl) ?_
  refine lv_imul G.hx G.hb (dcs_get dec_X12_tell_1 5 rfl) ?_
  refine lv_aload_n G.hx G.hb (dcs_get dec_X12_tell_1 6 rfl) rfl (lv_at hl 0 rfl) ?_
  obtain ⟨z12, e_z12, ok_z12, hf⟩ := cR_some hf
  have k_z12 := okr_in ok_z12
  refine r_getr (k := 5) cls12 fi_12_5.1 fi_12_5.2 q_1013 G w k_a0.1 k_a0.2 e_z12 (dcs_get dec_X12_tell_1 7 rfl) ?_
  refine lv_aload_n G.hx G.hb (dcs_get dec_X12_tell_1 8 rfl) rfl (lv_at hl 0 rfl) ?_
  refine r_geti (k := 11) cls12 fi_12_11.1 fi_12_11.2 q_1019 G w k_a0.1 k_a0.2 (dcs_get dec_X12_tell_1 9 rfl) ?_
  obtain ⟨h13, hf⟩ := cG_some hf
  refine r_iald G w k_z12.1 k_z12.2 h13 (dcs_get dec_X12_tell_1 10 rfl) ?_
  refine lv_iadd G.hx G.hb (dcs_get dec_X12_tell_1 11 rfl) ?_
  refine lv_bipush (v := (24 : Int32)) G.hx G.hb (dcs_get dec_X12_tell_1 12 rfl) (by decide) ?_
  refine lv_isub G.hx G.hb (dcs_get dec_X12_tell_1 13 rfl) ?_
  obtain ⟨v14, e_v14, hf⟩ := cL_some hf
  refine r_topi e_v14 ?_
  refine lv_istore_n (lv' := [(1, .int v14), (0, .ref (ad a0))]) G.hx G.hb (dcs_get dec_X12_tell_1 14 rfl) rfl hl (by decide) rfl (fun ls hl => ?_)
  refine lv_aload_n G.hx G.hb (dcs_get dec_X12_tell_1 15 rfl) rfl (lv_at hl 1 rfl) ?_
  obtain ⟨σ16, h15, hf⟩ := cB_some hf
  refine a_v (k_V (As := []) (rest := []) cls12 lb_X12_goesOn lv_X12_goesOn q_1270 (C_X12_goesOn G.2.2.1 a0 σ h15 ok_a0) ⟨(Nat.le_of_ble_eq_true rfl), (Nat.le_of_ble_eq_true rfl)⟩ G w k_a0.1 k_a0.2 rfl rfl hl.1 (Nat.le_of_ble_eq_true rfl) (dcs_get dec_X12_tell_1 16 rfl) ⟨Nat.le_refl _, Nat.le_refl _⟩) G w (fun H locs w => ?_)
  refine lv_aload_n G.hx G.hb (dcs_get dec_X12_tell_1 17 rfl) rfl (lv_at hl 1 rfl) ?_
  refine lv_iload_n G.hx G.hb (dcs_get dec_X12_tell_1 18 rfl) rfl (lv_at hl 0 rfl) ?_
  obtain ⟨σ18, h17, hf⟩ := cB_some hf
  refine a_v (k_V (As := [.int v14]) (rest := []) cls12 lb_X12_tellWeather lv_X12_tellWeather q_1330 (C_X12_tellWeather G.2.2.1 a0 v14 σ16 h17 ok_a0) ⟨(Nat.le_of_ble_eq_true rfl), (Nat.le_of_ble_eq_true rfl)⟩ G w k_a0.1 k_a0.2 rfl rfl hl.1 (Nat.le_of_ble_eq_true rfl) (dcs_get dec_X12_tell_1 19 rfl) ⟨Nat.le_refl _, Nat.le_refl _⟩) G w (fun H locs w => ?_)
  refine lv_goto (tgt := 282) G.hx G.hb (dcs_get dec_X12_tell_1 20 rfl) (by decide) ?_
  exact B_X12_tell_282  σ18 G hm  hf  w (lv_sub hl [] rfl)
set_option maxRecDepth 100000 in
set_option maxHeartbeats 4000000 in
theorem B_X12_tell_0 {H : Heap} {locs : List Loc} {ls : Array Slot} {σ0 : hSt} (a0 : Nat) (σ : hSt) (G : Gx p m c cX12_tell 2 s args RX12 D ay NM ad (aN NM ad)) (hm : meth.sig.returnType = none ∧ meth.locks = false) (ok_a0 : okr kM NM 12 a0 = true) (hf : F_X12_tell a0 σ = some σ0)  (w : Wd D ay kM NM ad (aN NM ad) s σ H locs) (hl : lv_has ls 2 [(0, .ref (ad a0))]) : W p l e (rmK 6 125) s m args below meth c H locs 0 0 (MQ below (cV D ay kM NM ad σ0) args s 0 0 (aN NM ad)) (F0 m 0 ls []) := by
  have k_a0 := okr_in ok_a0
  unfold F_X12_tell at hf
  refine lv_aload_n G.hx G.hb (dcs_get dec_X12_tell_0 0 rfl) rfl (lv_at hl 0 rfl) ?_
  obtain ⟨z19, e_z19, ok_z19, hf⟩ := cR_some hf
  have k_z19 := okr_in ok_z19
  refine r_getr (k := 5) cls12 fi_12_5.1 fi_12_5.2 q_1013 G w k_a0.1 k_a0.2 e_z19 (dcs_get dec_X12_tell_0 1 rfl) ?_
  refine lv_aload_n G.hx G.hb (dcs_get dec_X12_tell_0 2 rfl) rfl (lv_at hl 0 rfl) ?_
  refine r_geti (k := 11) cls12 fi_12_11.1 fi_12_11.2 q_1019 G w k_a0.1 k_a0.2 (dcs_get dec_X12_tell_0 3 rfl) ?_
  obtain ⟨h20, hf⟩ := cG_some hf
  refine r_iald G w k_z19.1 k_z19.2 h20 (dcs_get dec_X12_tell_0 4 rfl) ?_
  obtain ⟨v21, e_v21, hf⟩ := cL_some hf
  refine r_topi e_v21 ?_
  by_cases hc0 : v21 = (20 : Int32)
  · rw [if_pos hc0] at hf
    refine r_tIn (k := (20 : Int32)) (tgt := 72) G.hx G.hb (dcs_get dec_X12_tell_0 5 rfl) hc0 (by decide) rfl (by decide) ?_
    refine lv_aload_n G.hx G.hb (dcs_get dec_X12_tell_0 6 rfl) rfl (lv_at hl 0 rfl) ?_
    refine lv_aload_n G.hx G.hb (dcs_get dec_X12_tell_0 7 rfl) rfl (lv_at hl 0 rfl) ?_
    obtain ⟨z22, e_z22, ok_z22, hf⟩ := cR_some hf
    have k_z22 := okr_in ok_z22
    refine r_getr (k := 24) cls12 fi_12_24.1 fi_12_24.2 q_1032 G w k_a0.1 k_a0.2 e_z22 (dcs_get dec_X12_tell_0 8 rfl) ?_
    refine lv_aload_n G.hx G.hb (dcs_get dec_X12_tell_0 9 rfl) rfl (lv_at hl 0 rfl) ?_
    refine r_geti (k := 19) cls12 fi_12_19.1 fi_12_19.2 q_1027 G w k_a0.1 k_a0.2 (dcs_get dec_X12_tell_0 10 rfl) ?_
    obtain ⟨h23, hf⟩ := cG_some hf
    refine r_iald G w k_z22.1 k_z22.2 h23 (dcs_get dec_X12_tell_0 11 rfl) ?_
    refine lv_bipush (v := (6 : Int32)) G.hx G.hb (dcs_get dec_X12_tell_0 12 rfl) (by decide) ?_
    obtain ⟨σ25, h24, hf⟩ := cB_some hf
    refine a_v (k_V (As := [.int (σ.1 z22 (σ.1 a0 19).toNatClampNeg), .int (6 : Int32)]) (rest := []) cls12 lb_X12_roomFor lv_X12_roomFor q_1262 (C_X12_roomFor G.2.2.1 a0 (σ.1 z22 (σ.1 a0 19).toNatClampNeg) (6 : Int32) σ h24 ok_a0) ⟨(Nat.le_of_ble_eq_true rfl), (Nat.le_of_ble_eq_true rfl)⟩ G w k_a0.1 k_a0.2 rfl rfl hl.1 (Nat.le_of_ble_eq_true rfl) (dcs_get dec_X12_tell_0 13 rfl) ⟨Nat.le_refl _, Nat.le_refl _⟩) G w (fun H locs w => ?_)
    refine lv_aload_n G.hx G.hb (dcs_get dec_X12_tell_0 14 rfl) rfl (lv_at hl 0 rfl) ?_
    refine r_geti (k := 13) cls12 fi_12_13.1 fi_12_13.2 q_1021 G w k_a0.1 k_a0.2 (dcs_get dec_X12_tell_0 15 rfl) ?_
    refine lv_if_ne (tgt := 282) G.hx G.hb (dcs_get dec_X12_tell_0 16 rfl) (by decide) (fun hc => ?_) (fun hc => ?_)
    · rw [if_neg hc] at hf
      exact B_X12_tell_282  σ25 G hm  hf  w (lv_sub hl [] rfl)
    · rw [if_pos hc] at hf
      refine lv_aload_n G.hx G.hb (dcs_get dec_X12_tell_0 17 rfl) rfl (lv_at hl 0 rfl) ?_
      obtain ⟨σ27, h26, hf⟩ := cB_some hf
      refine a_v (k_V (As := []) (rest := []) cls12 lb_X12_tellHill lv_X12_tellHill q_1274 (C_X12_tellHill G.2.2.1 a0 σ25 h26 ok_a0) ⟨(Nat.le_of_ble_eq_true rfl), (Nat.le_of_ble_eq_true rfl)⟩ G w k_a0.1 k_a0.2 rfl rfl hl.1 (Nat.le_of_ble_eq_true rfl) (dcs_get dec_X12_tell_0 18 rfl) ⟨Nat.le_refl _, Nat.le_refl _⟩) G w (fun H locs w => ?_)
      refine lv_goto (tgt := 282) G.hx G.hb (dcs_get dec_X12_tell_0 19 rfl) (by decide) ?_
      exact B_X12_tell_282  σ27 G hm  hf  w (lv_sub hl [] rfl)
  rw [if_neg hc0] at hf
  by_cases hc1 : v21 = (21 : Int32)
  · rw [if_pos hc1] at hf
    refine r_tIn (k := (21 : Int32)) (tgt := 101) G.hx G.hb (dcs_get dec_X12_tell_0 5 rfl) hc1 (by decide) rfl (by decide) ?_
    refine lv_aload_n G.hx G.hb (dcs_get dec_X12_tell_0 20 rfl) rfl (lv_at hl 0 rfl) ?_
    refine lv_aload_n G.hx G.hb (dcs_get dec_X12_tell_0 21 rfl) rfl (lv_at hl 0 rfl) ?_
    obtain ⟨z28, e_z28, ok_z28, hf⟩ := cR_some hf
    have k_z28 := okr_in ok_z28
    refine r_getr (k := 27) cls12 fi_12_27.1 fi_12_27.2 q_1035 G w k_a0.1 k_a0.2 e_z28 (dcs_get dec_X12_tell_0 22 rfl) ?_
    refine lv_aload_n G.hx G.hb (dcs_get dec_X12_tell_0 23 rfl) rfl (lv_at hl 0 rfl) ?_
    refine r_geti (k := 19) cls12 fi_12_19.1 fi_12_19.2 q_1027 G w k_a0.1 k_a0.2 (dcs_get dec_X12_tell_0 24 rfl) ?_
    obtain ⟨h29, hf⟩ := cG_some hf
    refine r_iald G w k_z28.1 k_z28.2 h29 (dcs_get dec_X12_tell_0 25 rfl) ?_
    refine lv_iconst (v := (4 : Int32)) G.hx G.hb (dcs_get dec_X12_tell_0 26 rfl) (by decide) ?_
    obtain ⟨σ31, h30, hf⟩ := cB_some hf
    refine a_v (k_V (As := [.int (σ.1 z28 (σ.1 a0 19).toNatClampNeg), .int (4 : Int32)]) (rest := []) cls12 lb_X12_roomFor lv_X12_roomFor q_1262 (C_X12_roomFor G.2.2.1 a0 (σ.1 z28 (σ.1 a0 19).toNatClampNeg) (4 : Int32) σ h30 ok_a0) ⟨(Nat.le_of_ble_eq_true rfl), (Nat.le_of_ble_eq_true rfl)⟩ G w k_a0.1 k_a0.2 rfl rfl hl.1 (Nat.le_of_ble_eq_true rfl) (dcs_get dec_X12_tell_0 27 rfl) ⟨Nat.le_refl _, Nat.le_refl _⟩) G w (fun H locs w => ?_)
    refine lv_aload_n G.hx G.hb (dcs_get dec_X12_tell_0 28 rfl) rfl (lv_at hl 0 rfl) ?_
    refine r_geti (k := 13) cls12 fi_12_13.1 fi_12_13.2 q_1021 G w k_a0.1 k_a0.2 (dcs_get dec_X12_tell_0 29 rfl) ?_
    refine lv_if_ne (tgt := 282) G.hx G.hb (dcs_get dec_X12_tell_0 30 rfl) (by decide) (fun hc => ?_) (fun hc => ?_)
    · rw [if_neg hc] at hf
      exact B_X12_tell_282  σ31 G hm  hf  w (lv_sub hl [] rfl)
    · rw [if_pos hc] at hf
      refine lv_aload_n G.hx G.hb (dcs_get dec_X12_tell_0 31 rfl) rfl (lv_at hl 0 rfl) ?_
      obtain ⟨σ33, h32, hf⟩ := cB_some hf
      refine a_v (k_V (As := []) (rest := []) cls12 lb_X12_tellNews lv_X12_tellNews q_1298 (C_X12_tellNews G.2.2.1 a0 σ31 h32 ok_a0) ⟨(Nat.le_of_ble_eq_true rfl), (Nat.le_of_ble_eq_true rfl)⟩ G w k_a0.1 k_a0.2 rfl rfl hl.1 (Nat.le_of_ble_eq_true rfl) (dcs_get dec_X12_tell_0 32 rfl) ⟨Nat.le_refl _, Nat.le_refl _⟩) G w (fun H locs w => ?_)
      refine lv_goto (tgt := 282) G.hx G.hb (dcs_get dec_X12_tell_0 33 rfl) (by decide) ?_
      exact B_X12_tell_282  σ33 G hm  hf  w (lv_sub hl [] rfl)
  rw [if_neg hc1] at hf
  by_cases hc2 : v21 = (22 : Int32)
  · rw [if_pos hc2] at hf
    refine r_tIn (k := (22 : Int32)) (tgt := 277) G.hx G.hb (dcs_get dec_X12_tell_0 5 rfl) hc2 (by decide) rfl (by decide) ?_
    exact B_X12_tell_277 a0 σ G hm ok_a0 hf  w (lv_sub hl [0] rfl)
  rw [if_neg hc2] at hf
  by_cases hc3 : v21 = (23 : Int32)
  · rw [if_pos hc3] at hf
    refine r_tIn (k := (23 : Int32)) (tgt := 129) G.hx G.hb (dcs_get dec_X12_tell_0 5 rfl) hc3 (by decide) rfl (by decide) ?_
    refine lv_aload_n G.hx G.hb (dcs_get dec_X12_tell_0 34 rfl) rfl (lv_at hl 0 rfl) ?_
    obtain ⟨σ35, h34, hf⟩ := cB_some hf
    refine a_v (k_V (As := []) (rest := []) cls12 lb_X12_goesOn lv_X12_goesOn q_1270 (C_X12_goesOn G.2.2.1 a0 σ h34 ok_a0) ⟨(Nat.le_of_ble_eq_true rfl), (Nat.le_of_ble_eq_true rfl)⟩ G w k_a0.1 k_a0.2 rfl rfl hl.1 (Nat.le_of_ble_eq_true rfl) (dcs_get dec_X12_tell_0 35 rfl) ⟨Nat.le_refl _, Nat.le_refl _⟩) G w (fun H locs w => ?_)
    refine lv_aload_n G.hx G.hb (dcs_get dec_X12_tell_0 36 rfl) rfl (lv_at hl 0 rfl) ?_
    refine lv_iconst (v := (5 : Int32)) G.hx G.hb (dcs_get dec_X12_tell_0 37 rfl) (by decide) ?_
    obtain ⟨σ37, h36, hf⟩ := cB_some hf
    refine a_v (k_V (As := [.int (5 : Int32)]) (rest := []) cls12 lb_X12_must lv_X12_must q_1282 (C_X12_must G.2.2.1 a0 (5 : Int32) σ35 h36 ok_a0) ⟨(Nat.le_of_ble_eq_true rfl), (Nat.le_of_ble_eq_true rfl)⟩ G w k_a0.1 k_a0.2 rfl rfl hl.1 (Nat.le_of_ble_eq_true rfl) (dcs_get dec_X12_tell_0 38 rfl) ⟨Nat.le_refl _, Nat.le_refl _⟩) G w (fun H locs w => ?_)
    refine lv_aload_n G.hx G.hb (dcs_get dec_X12_tell_0 39 rfl) rfl (lv_at hl 0 rfl) ?_
    obtain ⟨σ39, h38, hf⟩ := cB_some hf
    refine a_v (k_V (As := []) (rest := []) cls12 lb_X12_tellLaw lv_X12_tellLaw q_1306 (C_X12_tellLaw G.2.2.1 a0 σ37 h38 ok_a0) ⟨(Nat.le_of_ble_eq_true rfl), (Nat.le_of_ble_eq_true rfl)⟩ G w k_a0.1 k_a0.2 rfl rfl hl.1 (Nat.le_of_ble_eq_true rfl) (dcs_get dec_X12_tell_1 0 rfl) ⟨Nat.le_refl _, Nat.le_refl _⟩) G w (fun H locs w => ?_)
    refine lv_goto (tgt := 282) G.hx G.hb (dcs_get dec_X12_tell_1 1 rfl) (by decide) ?_
    exact B_X12_tell_282  σ39 G hm  hf  w (lv_sub hl [] rfl)
  rw [if_neg hc3] at hf
  by_cases hc4 : v21 = (24 : Int32)
  · rw [if_pos hc4] at hf
    refine r_tIn (k := (24 : Int32)) (tgt := 145) G.hx G.hb (dcs_get dec_X12_tell_0 5 rfl) hc4 (by decide) rfl (by decide) ?_
    exact B_X12_tell_145 a0 σ G hm ok_a0 hf  w (lv_sub hl [0] rfl)
  rw [if_neg hc4] at hf
  by_cases hc5 : v21 = (25 : Int32)
  · rw [if_pos hc5] at hf
    refine r_tIn (k := (25 : Int32)) (tgt := 145) G.hx G.hb (dcs_get dec_X12_tell_0 5 rfl) hc5 (by decide) rfl (by decide) ?_
    exact B_X12_tell_145 a0 σ G hm ok_a0 hf  w (lv_sub hl [0] rfl)
  rw [if_neg hc5] at hf
  by_cases hc6 : v21 = (26 : Int32)
  · rw [if_pos hc6] at hf
    refine r_tIn (k := (26 : Int32)) (tgt := 177) G.hx G.hb (dcs_get dec_X12_tell_0 5 rfl) hc6 (by decide) rfl (by decide) ?_
    refine lv_aload_n G.hx G.hb (dcs_get dec_X12_tell_1 21 rfl) rfl (lv_at hl 0 rfl) ?_
    obtain ⟨σ41, h40, hf⟩ := cB_some hf
    refine a_v (k_V (As := []) (rest := []) cls12 lb_X12_goesOn lv_X12_goesOn q_1270 (C_X12_goesOn G.2.2.1 a0 σ h40 ok_a0) ⟨(Nat.le_of_ble_eq_true rfl), (Nat.le_of_ble_eq_true rfl)⟩ G w k_a0.1 k_a0.2 rfl rfl hl.1 (Nat.le_of_ble_eq_true rfl) (dcs_get dec_X12_tell_1 22 rfl) ⟨Nat.le_refl _, Nat.le_refl _⟩) G w (fun H locs w => ?_)
    refine lv_aload_n G.hx G.hb (dcs_get dec_X12_tell_1 23 rfl) rfl (lv_at hl 0 rfl) ?_
    refine r_geti (k := 13) cls12 fi_12_13.1 fi_12_13.2 q_1021 G w k_a0.1 k_a0.2 (dcs_get dec_X12_tell_1 24 rfl) ?_
    refine lv_if_le (tgt := 192) G.hx G.hb (dcs_get dec_X12_tell_1 25 rfl) (by decide) (fun hc => ?_) (fun hc => ?_)
    · rw [if_pos hc] at hf
      refine lv_aload_n G.hx G.hb (dcs_get dec_X12_tell_1 28 rfl) rfl (lv_at hl 0 rfl) ?_
      obtain ⟨z42, e_z42, ok_z42, hf⟩ := cR_some hf
      have k_z42 := okr_in ok_z42
      refine r_getr (k := 5) cls12 fi_12_5.1 fi_12_5.2 q_1013 G w k_a0.1 k_a0.2 e_z42 (dcs_get dec_X12_tell_1 29 rfl) ?_
      refine lv_aload_n G.hx G.hb (dcs_get dec_X12_tell_1 30 rfl) rfl (lv_at hl 0 rfl) ?_
      refine r_geti (k := 11) cls12 fi_12_11.1 fi_12_11.2 q_1019 G w k_a0.1 k_a0.2 (dcs_get dec_X12_tell_1 31 rfl) ?_
      obtain ⟨h43, hf⟩ := cG_some hf
      refine r_iald G w k_z42.1 k_z42.2 h43 (dcs_get dec_X12_tell_1 32 rfl) ?_
      refine lv_bipush (v := (27 : Int32)) G.hx G.hb (dcs_get dec_X12_tell_1 33 rfl) (by decide) ?_
      refine lv_isub G.hx G.hb (dcs_get dec_X12_tell_1 34 rfl) ?_
      exact B_X12_tell_204 a0 ((σ41.1 z42 (σ41.1 a0 11).toNatClampNeg) - (27 : Int32)) σ41 G hm ok_a0 hf  w (lv_sub hl [0] rfl)
    · rw [if_neg hc] at hf
      refine lv_iconst (v := (-1 : Int32)) G.hx G.hb (dcs_get dec_X12_tell_1 26 rfl) (by decide) ?_
      refine lv_goto (tgt := 204) G.hx G.hb (dcs_get dec_X12_tell_1 27 rfl) (by decide) ?_
      exact B_X12_tell_204 a0 (-1 : Int32) σ41 G hm ok_a0 hf  w (lv_sub hl [0] rfl)
  rw [if_neg hc6] at hf
  by_cases hc7 : v21 = (27 : Int32)
  · rw [if_pos hc7] at hf
    refine r_tIn (k := (27 : Int32)) (tgt := 277) G.hx G.hb (dcs_get dec_X12_tell_0 5 rfl) hc7 (by decide) rfl (by decide) ?_
    exact B_X12_tell_277 a0 σ G hm ok_a0 hf  w (lv_sub hl [0] rfl)
  rw [if_neg hc7] at hf
  by_cases hc8 : v21 = (28 : Int32)
  · rw [if_pos hc8] at hf
    refine r_tIn (k := (28 : Int32)) (tgt := 277) G.hx G.hb (dcs_get dec_X12_tell_0 5 rfl) hc8 (by decide) rfl (by decide) ?_
    exact B_X12_tell_277 a0 σ G hm ok_a0 hf  w (lv_sub hl [0] rfl)
  rw [if_neg hc8] at hf
  by_cases hc9 : v21 = (29 : Int32)
  · rw [if_pos hc9] at hf
    refine r_tIn (k := (29 : Int32)) (tgt := 277) G.hx G.hb (dcs_get dec_X12_tell_0 5 rfl) hc9 (by decide) rfl (by decide) ?_
    exact B_X12_tell_277 a0 σ G hm ok_a0 hf  w (lv_sub hl [0] rfl)
  rw [if_neg hc9] at hf
  by_cases hc10 : v21 = (30 : Int32)
  · rw [if_pos hc10] at hf
    refine r_tIn (k := (30 : Int32)) (tgt := 277) G.hx G.hb (dcs_get dec_X12_tell_0 5 rfl) hc10 (by decide) rfl (by decide) ?_
    exact B_X12_tell_277 a0 σ G hm ok_a0 hf  w (lv_sub hl [0] rfl)
  rw [if_neg hc10] at hf
  by_cases hc11 : v21 = (31 : Int32)
  · rw [if_pos hc11] at hf
    refine r_tIn (k := (31 : Int32)) (tgt := 249) G.hx G.hb (dcs_get dec_X12_tell_0 5 rfl) hc11 (by decide) rfl (by decide) ?_
    refine lv_aload_n G.hx G.hb (dcs_get dec_X12_tell_2 20 rfl) rfl (lv_at hl 0 rfl) ?_
    refine lv_aload_n G.hx G.hb (dcs_get dec_X12_tell_2 21 rfl) rfl (lv_at hl 0 rfl) ?_
    obtain ⟨z44, e_z44, ok_z44, hf⟩ := cR_some hf
    have k_z44 := okr_in ok_z44
    refine r_getr (k := 32) cls12 fi_12_32.1 fi_12_32.2 q_1040 G w k_a0.1 k_a0.2 e_z44 (dcs_get dec_X12_tell_2 22 rfl) ?_
    refine lv_aload_n G.hx G.hb (dcs_get dec_X12_tell_2 23 rfl) rfl (lv_at hl 0 rfl) ?_
    refine r_geti (k := 19) cls12 fi_12_19.1 fi_12_19.2 q_1027 G w k_a0.1 k_a0.2 (dcs_get dec_X12_tell_2 24 rfl) ?_
    obtain ⟨h45, hf⟩ := cG_some hf
    refine r_iald G w k_z44.1 k_z44.2 h45 (dcs_get dec_X12_tell_2 25 rfl) ?_
    refine lv_iconst (v := (4 : Int32)) G.hx G.hb (dcs_get dec_X12_tell_2 26 rfl) (by decide) ?_
    obtain ⟨σ47, h46, hf⟩ := cB_some hf
    refine a_v (k_V (As := [.int (σ.1 z44 (σ.1 a0 19).toNatClampNeg), .int (4 : Int32)]) (rest := []) cls12 lb_X12_roomFor lv_X12_roomFor q_1262 (C_X12_roomFor G.2.2.1 a0 (σ.1 z44 (σ.1 a0 19).toNatClampNeg) (4 : Int32) σ h46 ok_a0) ⟨(Nat.le_of_ble_eq_true rfl), (Nat.le_of_ble_eq_true rfl)⟩ G w k_a0.1 k_a0.2 rfl rfl hl.1 (Nat.le_of_ble_eq_true rfl) (dcs_get dec_X12_tell_2 27 rfl) ⟨Nat.le_refl _, Nat.le_refl _⟩) G w (fun H locs w => ?_)
    refine lv_aload_n G.hx G.hb (dcs_get dec_X12_tell_2 28 rfl) rfl (lv_at hl 0 rfl) ?_
    refine r_geti (k := 13) cls12 fi_12_13.1 fi_12_13.2 q_1021 G w k_a0.1 k_a0.2 (dcs_get dec_X12_tell_2 29 rfl) ?_
    refine lv_if_ne (tgt := 282) G.hx G.hb (dcs_get dec_X12_tell_2 30 rfl) (by decide) (fun hc => ?_) (fun hc => ?_)
    · rw [if_neg hc] at hf
      exact B_X12_tell_282  σ47 G hm  hf  w (lv_sub hl [] rfl)
    · rw [if_pos hc] at hf
      refine lv_aload_n G.hx G.hb (dcs_get dec_X12_tell_2 31 rfl) rfl (lv_at hl 0 rfl) ?_
      obtain ⟨σ49, h48, hf⟩ := cB_some hf
      refine a_v (k_V (As := []) (rest := []) cls12 lb_X12_tellSleeper lv_X12_tellSleeper q_1334 (C_X12_tellSleeper G.2.2.1 a0 σ47 h48 ok_a0) ⟨(Nat.le_of_ble_eq_true rfl), (Nat.le_of_ble_eq_true rfl)⟩ G w k_a0.1 k_a0.2 rfl rfl hl.1 (Nat.le_of_ble_eq_true rfl) (dcs_get dec_X12_tell_2 32 rfl) ⟨Nat.le_refl _, Nat.le_refl _⟩) G w (fun H locs w => ?_)
      refine lv_goto (tgt := 282) G.hx G.hb (dcs_get dec_X12_tell_2 33 rfl) (by decide) ?_
      exact B_X12_tell_282  σ49 G hm  hf  w (lv_sub hl [] rfl)
  rw [if_neg hc11] at hf
  refine lv_tableOut (tgt := 277) G.hx G.hb (dcs_get dec_X12_tell_0 5 rfl) (ts_out [(20 : Int32), (21 : Int32), (22 : Int32), (23 : Int32), (24 : Int32), (25 : Int32), (26 : Int32), (27 : Int32), (28 : Int32), (29 : Int32), (30 : Int32), (31 : Int32)] (by intro z h1 h2; simp only [List.map]; rcases (show z = 20 ∨ z = 21 ∨ z = 22 ∨ z = 23 ∨ z = 24 ∨ z = 25 ∨ z = 26 ∨ z = 27 ∨ z = 28 ∨ z = 29 ∨ z = 30 ∨ z = 31 by omega) with h4 | h4 | h4 | h4 | h4 | h4 | h4 | h4 | h4 | h4 | h4 | h4 <;> subst h4 <;> decide) (by simp only [List.forall_mem_cons]; exact ⟨hc0, hc1, hc2, hc3, hc4, hc5, hc6, hc7, hc8, hc9, hc10, hc11, fun _ h => absurd h List.not_mem_nil⟩)) (by decide) ?_
  exact B_X12_tell_277 a0 σ G hm ok_a0 hf  w (lv_sub hl [0] rfl)
end
set_option maxRecDepth 100000 in
set_option maxHeartbeats 4000000 in
theorem C_X12_tell {l : Launch} {D : va_G} {ay : Nat → ClassId} {ad : Nat → Nat} (hi : hInj NM ad) (a0 : Nat) (σ : hSt) {σ0 : hSt} (hf : F_X12_tell a0 σ = some σ0) (ok_a0 : okr kM NM 12 a0 = true) : hM l D ay kM NM ad yX12_tell cX12_tell 2 (none) (rmK 6 125) [.ref (ad a0)] σ (cV D ay kM NM ad σ0) := by
  refine hM_in (by decide) hi (Nat.le_of_ble_eq_true rfl) ?_
  intro p e s m below meth c G hm w ls hl
  exact B_X12_tell_0 a0 σ G hm ok_a0 hf w (lv_sub hl [0] rfl)

/-! HillDrumsModel.knowsFromBegin(II)V -/
def DL_X12_knowsFromBegin_0 : List (Nat × Instr × Nat) := [(0, .aload_n 0, 1), (1, .getfield 128, 3), (4, .iconst 4, 1), (5, .iload_n 1, 1), (6, .imul, 1), (7, .iload_n 2, 1), (8, .iadd, 1), (9, .iconst 1, 1), (10, .iastore, 1), (11, .aload_n 0, 1), (12, .getfield 128, 3), (15, .bipush 24, 2), (17, .iconst 4, 1), (18, .iload_n 1, 1), (19, .imul, 1), (20, .iadd, 1), (21, .iload_n 2, 1), (22, .iadd, 1), (23, .iconst 0, 1), (24, .iastore, 1), (25, .aload_n 0, 1), (26, .getfield 128, 3), (29, .bipush 48, 2), (31, .iconst 4, 1), (32, .iload_n 1, 1), (33, .imul, 1), (34, .iadd, 1), (35, .iload_n 2, 1), (36, .iadd, 1), (37, .iload_n 1, 1), (38, .iastore, 1), (39, .aload_n 0, 1), (40, .getfield 128, 3), (43, .bipush 72, 2), (45, .iconst 4, 1), (46, .iload_n 1, 1), (47, .imul, 1), (48, .iadd, 1), (49, .iload_n 2, 1), (50, .iadd, 1)]
set_option maxRecDepth 100000 in
theorem dec_X12_knowsFromBegin_0 : dcs cX12_knowsFromBegin DL_X12_knowsFromBegin_0 = true := by decide +kernel
def DL_X12_knowsFromBegin_1 : List (Nat × Instr × Nat) := [(51, .iconst 0, 1), (52, .iastore, 1), (53, .return_, 1)]
set_option maxRecDepth 100000 in
theorem dec_X12_knowsFromBegin_1 : dcs cX12_knowsFromBegin DL_X12_knowsFromBegin_1 = true := by decide +kernel
theorem lb_X12_knowsFromBegin : lkB yX12_knowsFromBegin cX12_knowsFromBegin 3 (none) 2 := ⟨q_1004, q_14, ⟨by decide, by decide⟩, by decide +kernel⟩
theorem lv_X12_knowsFromBegin : lkV yX12_knowsFromBegin := ⟨q_1003, qs_65⟩
def F_X12_knowsFromBegin (a0 : Nat) (l1 : Int32) (l2 : Int32) (σ : hSt) : Option (hSt) :=
cR (σ.2.2 a0 54) (okr kM NM 101) fun z1 =>
cG (inb (((4 : Int32) * l1) + l2) (kM z1).2) <|
cL (uI σ z1 (((4 : Int32) * l1) + l2).toNatClampNeg (1 : Int32)) fun σ3 =>
cR (σ3.2.2 a0 54) (okr kM NM 101) fun z4 =>
cG (inb (((24 : Int32) + ((4 : Int32) * l1)) + l2) (kM z4).2) <|
cL (uI σ3 z4 (((24 : Int32) + ((4 : Int32) * l1)) + l2).toNatClampNeg (0 : Int32)) fun σ6 =>
cR (σ6.2.2 a0 54) (okr kM NM 101) fun z7 =>
cG (inb (((48 : Int32) + ((4 : Int32) * l1)) + l2) (kM z7).2) <|
cL (uI σ6 z7 (((48 : Int32) + ((4 : Int32) * l1)) + l2).toNatClampNeg l1) fun σ9 =>
cR (σ9.2.2 a0 54) (okr kM NM 101) fun z10 =>
cG (inb (((72 : Int32) + ((4 : Int32) * l1)) + l2) (kM z10).2) <|
cL (uI σ9 z10 (((72 : Int32) + ((4 : Int32) * l1)) + l2).toNatClampNeg (0 : Int32)) fun σ12 =>
some (σ12)
section
variable {p : Program} {l : Launch} {e : Env} {s : State} {m : MethodId} {args : Array Value} {below : List Frame} {meth : Method} {c : Code} {D : va_G} {ay : Nat → ClassId} {ad : Nat → Nat}
set_option maxRecDepth 100000 in
set_option maxHeartbeats 4000000 in
theorem B_X12_knowsFromBegin_0 {H : Heap} {locs : List Loc} {ls : Array Slot} {σ0 : hSt} (a0 : Nat) (l1 : Int32) (l2 : Int32) (σ : hSt) (G : Gx p m c cX12_knowsFromBegin 3 s args RX12 D ay NM ad (aN NM ad)) (hm : meth.sig.returnType = none ∧ meth.locks = false) (ok_a0 : okr kM NM 12 a0 = true) (hf : F_X12_knowsFromBegin a0 l1 l2 σ = some σ0)  (w : Wd D ay kM NM ad (aN NM ad) s σ H locs) (hl : lv_has ls 3 [(0, .ref (ad a0)), (1, .int l1), (2, .int l2)]) : W p l e (rmK 0 0) s m args below meth c H locs 0 0 (MQ below (cV D ay kM NM ad σ0) args s 0 0 (aN NM ad)) (F0 m 0 ls []) := by
  have k_a0 := okr_in ok_a0
  unfold F_X12_knowsFromBegin at hf
  refine lv_aload_n G.hx G.hb (dcs_get dec_X12_knowsFromBegin_0 0 rfl) rfl (lv_at hl 0 rfl) ?_
  obtain ⟨z1, e_z1, ok_z1, hf⟩ := cR_some hf
  have k_z1 := okr_in ok_z1
  refine r_getr (k := 54) cls12 fi_12_54.1 fi_12_54.2 q_1062 G w k_a0.1 k_a0.2 e_z1 (dcs_get dec_X12_knowsFromBegin_0 1 rfl) ?_
  refine lv_iconst (v := (4 : Int32)) G.hx G.hb (dcs_get dec_X12_knowsFromBegin_0 2 rfl) (by decide) ?_
  refine lv_iload_n G.hx G.hb (dcs_get dec_X12_knowsFromBegin_0 3 rfl) rfl (lv_at hl 1 rfl) ?_
  refine lv_imul G.hx G.hb (dcs_get dec_X12_knowsFromBegin_0 4 rfl) ?_
  refine lv_iload_n G.hx G.hb (dcs_get dec_X12_knowsFromBegin_0 5 rfl) rfl (lv_at hl 2 rfl) ?_
  refine lv_iadd G.hx G.hb (dcs_get dec_X12_knowsFromBegin_0 6 rfl) ?_
  refine lv_iconst (v := (1 : Int32)) G.hx G.hb (dcs_get dec_X12_knowsFromBegin_0 7 rfl) (by decide) ?_
  obtain ⟨h2, hf⟩ := cG_some hf
  obtain ⟨σ3, e_σ3, hf⟩ := cL_some hf
  refine r_iast G w k_z1.1 k_z1.2 h2 (dcs_get dec_X12_knowsFromBegin_0 8 rfl) (fun H locs w => ?_)
  have w := Wd.nm e_σ3 w
  refine lv_aload_n G.hx G.hb (dcs_get dec_X12_knowsFromBegin_0 9 rfl) rfl (lv_at hl 0 rfl) ?_
  obtain ⟨z4, e_z4, ok_z4, hf⟩ := cR_some hf
  have k_z4 := okr_in ok_z4
  refine r_getr (k := 54) cls12 fi_12_54.1 fi_12_54.2 q_1062 G w k_a0.1 k_a0.2 e_z4 (dcs_get dec_X12_knowsFromBegin_0 10 rfl) ?_
  refine lv_bipush (v := (24 : Int32)) G.hx G.hb (dcs_get dec_X12_knowsFromBegin_0 11 rfl) (by decide) ?_
  refine lv_iconst (v := (4 : Int32)) G.hx G.hb (dcs_get dec_X12_knowsFromBegin_0 12 rfl) (by decide) ?_
  refine lv_iload_n G.hx G.hb (dcs_get dec_X12_knowsFromBegin_0 13 rfl) rfl (lv_at hl 1 rfl) ?_
  refine lv_imul G.hx G.hb (dcs_get dec_X12_knowsFromBegin_0 14 rfl) ?_
  refine lv_iadd G.hx G.hb (dcs_get dec_X12_knowsFromBegin_0 15 rfl) ?_
  refine lv_iload_n G.hx G.hb (dcs_get dec_X12_knowsFromBegin_0 16 rfl) rfl (lv_at hl 2 rfl) ?_
  refine lv_iadd G.hx G.hb (dcs_get dec_X12_knowsFromBegin_0 17 rfl) ?_
  refine lv_iconst (v := (0 : Int32)) G.hx G.hb (dcs_get dec_X12_knowsFromBegin_0 18 rfl) (by decide) ?_
  obtain ⟨h5, hf⟩ := cG_some hf
  obtain ⟨σ6, e_σ6, hf⟩ := cL_some hf
  refine r_iast G w k_z4.1 k_z4.2 h5 (dcs_get dec_X12_knowsFromBegin_0 19 rfl) (fun H locs w => ?_)
  have w := Wd.nm e_σ6 w
  refine lv_aload_n G.hx G.hb (dcs_get dec_X12_knowsFromBegin_0 20 rfl) rfl (lv_at hl 0 rfl) ?_
  obtain ⟨z7, e_z7, ok_z7, hf⟩ := cR_some hf
  have k_z7 := okr_in ok_z7
  refine r_getr (k := 54) cls12 fi_12_54.1 fi_12_54.2 q_1062 G w k_a0.1 k_a0.2 e_z7 (dcs_get dec_X12_knowsFromBegin_0 21 rfl) ?_
  refine lv_bipush (v := (48 : Int32)) G.hx G.hb (dcs_get dec_X12_knowsFromBegin_0 22 rfl) (by decide) ?_
  refine lv_iconst (v := (4 : Int32)) G.hx G.hb (dcs_get dec_X12_knowsFromBegin_0 23 rfl) (by decide) ?_
  refine lv_iload_n G.hx G.hb (dcs_get dec_X12_knowsFromBegin_0 24 rfl) rfl (lv_at hl 1 rfl) ?_
  refine lv_imul G.hx G.hb (dcs_get dec_X12_knowsFromBegin_0 25 rfl) ?_
  refine lv_iadd G.hx G.hb (dcs_get dec_X12_knowsFromBegin_0 26 rfl) ?_
  refine lv_iload_n G.hx G.hb (dcs_get dec_X12_knowsFromBegin_0 27 rfl) rfl (lv_at hl 2 rfl) ?_
  refine lv_iadd G.hx G.hb (dcs_get dec_X12_knowsFromBegin_0 28 rfl) ?_
  refine lv_iload_n G.hx G.hb (dcs_get dec_X12_knowsFromBegin_0 29 rfl) rfl (lv_at hl 1 rfl) ?_
  obtain ⟨h8, hf⟩ := cG_some hf
  obtain ⟨σ9, e_σ9, hf⟩ := cL_some hf
  refine r_iast G w k_z7.1 k_z7.2 h8 (dcs_get dec_X12_knowsFromBegin_0 30 rfl) (fun H locs w => ?_)
  have w := Wd.nm e_σ9 w
  refine lv_aload_n G.hx G.hb (dcs_get dec_X12_knowsFromBegin_0 31 rfl) rfl (lv_at hl 0 rfl) ?_
  obtain ⟨z10, e_z10, ok_z10, hf⟩ := cR_some hf
  have k_z10 := okr_in ok_z10
  refine r_getr (k := 54) cls12 fi_12_54.1 fi_12_54.2 q_1062 G w k_a0.1 k_a0.2 e_z10 (dcs_get dec_X12_knowsFromBegin_0 32 rfl) ?_
  refine lv_bipush (v := (72 : Int32)) G.hx G.hb (dcs_get dec_X12_knowsFromBegin_0 33 rfl) (by decide) ?_
  refine lv_iconst (v := (4 : Int32)) G.hx G.hb (dcs_get dec_X12_knowsFromBegin_0 34 rfl) (by decide) ?_
  refine lv_iload_n G.hx G.hb (dcs_get dec_X12_knowsFromBegin_0 35 rfl) rfl (lv_at hl 1 rfl) ?_
  refine lv_imul G.hx G.hb (dcs_get dec_X12_knowsFromBegin_0 36 rfl) ?_
  refine lv_iadd G.hx G.hb (dcs_get dec_X12_knowsFromBegin_0 37 rfl) ?_
  refine lv_iload_n G.hx G.hb (dcs_get dec_X12_knowsFromBegin_0 38 rfl) rfl (lv_at hl 2 rfl) ?_
  refine lv_iadd G.hx G.hb (dcs_get dec_X12_knowsFromBegin_0 39 rfl) ?_
  refine lv_iconst (v := (0 : Int32)) G.hx G.hb (dcs_get dec_X12_knowsFromBegin_1 0 rfl) (by decide) ?_
  obtain ⟨h11, hf⟩ := cG_some hf
  obtain ⟨σ12, e_σ12, hf⟩ := cL_some hf
  refine r_iast G w k_z10.1 k_z10.2 h11 (dcs_get dec_X12_knowsFromBegin_1 1 rfl) (fun H locs w => ?_)
  have w := Wd.nm e_σ12 w
  have e9 := Option.some.inj hf
  exact r_vret G w hm e9 (dcs_get dec_X12_knowsFromBegin_1 2 rfl)
end
set_option maxRecDepth 100000 in
set_option maxHeartbeats 4000000 in
theorem C_X12_knowsFromBegin {l : Launch} {D : va_G} {ay : Nat → ClassId} {ad : Nat → Nat} (hi : hInj NM ad) (a0 : Nat) (l1 : Int32) (l2 : Int32) (σ : hSt) {σ0 : hSt} (hf : F_X12_knowsFromBegin a0 l1 l2 σ = some σ0) (ok_a0 : okr kM NM 12 a0 = true) : hM l D ay kM NM ad yX12_knowsFromBegin cX12_knowsFromBegin 3 (none) (rmK 0 0) [.ref (ad a0), .int l1, .int l2] σ (cV D ay kM NM ad σ0) := by
  refine hM_in (by decide) hi (Nat.le_of_ble_eq_true rfl) ?_
  intro p e s m below meth c G hm w ls hl
  exact B_X12_knowsFromBegin_0 a0 l1 l2 σ G hm ok_a0 hf w (lv_sub hl [0, 1, 2] rfl)

/-! HillDrumsModel.begins()V -/
def DL_X12_begins_0 : List (Nat × Instr × Nat) := [(0, .iconst 0, 1), (1, .istore_n 1, 1), (2, .iload_n 1, 1), (3, .sipush 380, 3), (6, .if_icmp .ge 16, 3), (9, .aload_n 0, 1), (10, .getfield 128, 3), (13, .iload_n 1, 1), (14, .iconst 0, 1), (15, .iastore, 1), (16, .iinc 1 1, 3), (19, .goto (-17), 3), (22, .iconst 0, 1), (23, .istore_n 1, 1), (24, .iload_n 1, 1), (25, .aload_n 0, 1), (26, .getfield 58, 3), (29, .aload_n 0, 1), (30, .getfield 236, 3), (33, .iaload, 1), (34, .if_icmp .ge 27, 3), (37, .aload_n 0, 1), (38, .aload_n 0, 1), (39, .getfield 61, 3), (42, .iconst 4, 1), (43, .aload_n 0, 1), (44, .getfield 236, 3), (47, .imul, 1), (48, .iload_n 1, 1), (49, .iadd, 1), (50, .iaload, 1), (51, .iload_n 1, 1), (52, .invokevirtual 345, 3), (55, .iinc 1 1, 3), (58, .goto (-34), 3), (61, .aload_n 0, 1), (62, .aload_n 0, 1), (63, .getfield 70, 3), (66, .aload_n 0, 1), (67, .getfield 236, 3)]
set_option maxRecDepth 100000 in
theorem dec_X12_begins_0 : dcs cX12_begins DL_X12_begins_0 = true := by decide +kernel
def DL_X12_begins_1 : List (Nat × Instr × Nat) := [(70, .iaload, 1), (71, .putfield 348, 3), (74, .aload_n 0, 1), (75, .iconst (-1), 1), (76, .putfield 351, 3), (79, .return_, 1)]
set_option maxRecDepth 100000 in
theorem dec_X12_begins_1 : dcs cX12_begins DL_X12_begins_1 = true := by decide +kernel
theorem lb_X12_begins : lkB yX12_begins cX12_begins 2 (none) 0 := ⟨q_1000, q_14, ⟨by decide, by decide⟩, by decide +kernel⟩
theorem lv_X12_begins : lkV yX12_begins := ⟨q_999, qs_64⟩
def F_X12_begins_24b (a0 : Nat) (l1 : Int32) (σ : hSt) : Option ((Int32 × hSt) ⊕ (hSt)) :=
cR (σ.2.2 a0 27) (okr kM NM 101) fun z1 =>
cG (inb (σ.1 a0 18) (kM z1).2) <|
if (σ.1 z1 (σ.1 a0 18).toNatClampNeg) ≤ l1 then (
cR (σ.2.2 a0 31) (okr kM NM 101) fun z3 =>
cG (inb (σ.1 a0 18) (kM z3).2) <|
cL (uI σ a0 55 (σ.1 z3 (σ.1 a0 18).toNatClampNeg)) fun σ5 =>
cL (uI σ5 a0 56 (-1 : Int32)) fun σ6 =>
some (.inr (σ6))) else (
cR (σ.2.2 a0 28) (okr kM NM 101) fun z7 =>
cG (inb (((4 : Int32) * (σ.1 a0 18)) + l1) (kM z7).2) <|
(F_X12_knowsFromBegin a0 (σ.1 z7 (((4 : Int32) * (σ.1 a0 18)) + l1).toNatClampNeg) l1 σ).bind fun σ10 =>
cL (l1 + (1 : Int32)) fun v11 =>
some (.inl (v11, σ10)))
def S_X12_begins_24 (a0 : Nat) (v : Int32 × hSt) : Option ((Int32 × hSt) ⊕ (hSt)) := F_X12_begins_24b a0 v.1 v.2
def F_X12_begins_24 (a0 : Nat) (l1 : Int32) (σ : hSt) : Option (hSt) := lp (S_X12_begins_24 a0) fuel (l1, σ)
def F_X12_begins_2b (a0 : Nat) (l1 : Int32) (σ : hSt) : Option ((Int32 × hSt) ⊕ (hSt)) :=
if (380 : Int32) ≤ l1 then (
(F_X12_begins_24 a0 (0 : Int32) σ).map (fun x => .inr (x))) else (
cR (σ.2.2 a0 54) (okr kM NM 101) fun z12 =>
cG (inb l1 (kM z12).2) <|
cL (uI σ z12 l1.toNatClampNeg (0 : Int32)) fun σ14 =>
cL (l1 + (1 : Int32)) fun v15 =>
some (.inl (v15, σ14)))
def S_X12_begins_2 (a0 : Nat) (v : Int32 × hSt) : Option ((Int32 × hSt) ⊕ (hSt)) := F_X12_begins_2b a0 v.1 v.2
def F_X12_begins_2 (a0 : Nat) (l1 : Int32) (σ : hSt) : Option (hSt) := lp (S_X12_begins_2 a0) fuel (l1, σ)
def F_X12_begins (a0 : Nat) (σ : hSt) : Option (hSt) :=
F_X12_begins_2 a0 (0 : Int32) σ
section
variable {p : Program} {l : Launch} {e : Env} {s : State} {m : MethodId} {args : Array Value} {below : List Frame} {meth : Method} {c : Code} {D : va_G} {ay : Nat → ClassId} {ad : Nat → Nat}
set_option maxRecDepth 100000 in
set_option maxHeartbeats 4000000 in
theorem B_X12_begins_24b {H : Heap} {locs : List Loc} {ls : Array Slot} {σ0 : hSt} {o : (Int32 × hSt) ⊕ (hSt)} (a0 : Nat) (l1 : Int32) (σ : hSt) (G : Gx p m c cX12_begins 2 s args RX12 D ay NM ad (aN NM ad)) (hm : meth.sig.returnType = none ∧ meth.locks = false) (ok_a0 : okr kM NM 12 a0 = true) (hf : F_X12_begins_24b a0 l1 σ = some o) (hb0 : ∀ (v : Int32 × hSt), o = .inl v → ∀ (H : Heap) (locs : List Loc) (ls : Array Slot), Wd D ay kM NM ad (aN NM ad) s v.2 H locs → lv_has ls 2 [(0, .ref (ad a0)), (1, .int v.1)] → W p l e (rmK 1 22) s m args below meth c H locs 0 0 (MQ below (cV D ay kM NM ad σ0) args s 0 0 (aN NM ad)) (F0 m 24 ls [])) (hr : ∀ x, o = .inr (x) → x = σ0) (w : Wd D ay kM NM ad (aN NM ad) s σ H locs) (hl : lv_has ls 2 [(0, .ref (ad a0)), (1, .int l1)]) : W p l e (rmK 1 22) s m args below meth c H locs 0 0 (MQ below (cV D ay kM NM ad σ0) args s 0 0 (aN NM ad)) (F0 m 24 ls []) := by
  have k_a0 := okr_in ok_a0
  unfold F_X12_begins_24b at hf
  refine lv_iload_n G.hx G.hb (dcs_get dec_X12_begins_0 14 rfl) rfl (lv_at hl 1 rfl) ?_
  refine lv_aload_n G.hx G.hb (dcs_get dec_X12_begins_0 15 rfl) rfl (lv_at hl 0 rfl) ?_
  obtain ⟨z1, e_z1, ok_z1, hf⟩ := cR_some hf
  have k_z1 := okr_in ok_z1
  refine r_getr (k := 27) cls12 fi_12_27.1 fi_12_27.2 q_1035 G w k_a0.1 k_a0.2 e_z1 (dcs_get dec_X12_begins_0 16 rfl) ?_
  refine lv_aload_n G.hx G.hb (dcs_get dec_X12_begins_0 17 rfl) rfl (lv_at hl 0 rfl) ?_
  refine r_geti (k := 18) cls12 fi_12_18.1 fi_12_18.2 q_1026 G w k_a0.1 k_a0.2 (dcs_get dec_X12_begins_0 18 rfl) ?_
  obtain ⟨h2, hf⟩ := cG_some hf
  refine r_iald G w k_z1.1 k_z1.2 h2 (dcs_get dec_X12_begins_0 19 rfl) ?_
  refine lv_icmp_ge (tgt := 61) G.hx G.hb (dcs_get dec_X12_begins_0 20 rfl) (by decide) (fun hc => ?_) (fun hc => ?_)
  · rw [if_pos hc] at hf
    refine lv_aload_n G.hx G.hb (dcs_get dec_X12_begins_0 35 rfl) rfl (lv_at hl 0 rfl) ?_
    refine lv_aload_n G.hx G.hb (dcs_get dec_X12_begins_0 36 rfl) rfl (lv_at hl 0 rfl) ?_
    obtain ⟨z3, e_z3, ok_z3, hf⟩ := cR_some hf
    have k_z3 := okr_in ok_z3
    refine r_getr (k := 31) cls12 fi_12_31.1 fi_12_31.2 q_1039 G w k_a0.1 k_a0.2 e_z3 (dcs_get dec_X12_begins_0 37 rfl) ?_
    refine lv_aload_n G.hx G.hb (dcs_get dec_X12_begins_0 38 rfl) rfl (lv_at hl 0 rfl) ?_
    refine r_geti (k := 18) cls12 fi_12_18.1 fi_12_18.2 q_1026 G w k_a0.1 k_a0.2 (dcs_get dec_X12_begins_0 39 rfl) ?_
    obtain ⟨h4, hf⟩ := cG_some hf
    refine r_iald G w k_z3.1 k_z3.2 h4 (dcs_get dec_X12_begins_1 0 rfl) ?_
    obtain ⟨σ5, e_σ5, hf⟩ := cL_some hf
    refine r_puti (k := 55) cls12 ct12 fi_12_55.1 fi_12_55.2 fp_12_55.1 fp_12_55.2 q_1063 rfl rfl G w k_a0.1 k_a0.2 (dcs_get dec_X12_begins_1 1 rfl) (fun H locs w => ?_)
    have w := Wd.nm e_σ5 w
    refine lv_aload_n G.hx G.hb (dcs_get dec_X12_begins_1 2 rfl) rfl (lv_at hl 0 rfl) ?_
    refine lv_iconst (v := (-1 : Int32)) G.hx G.hb (dcs_get dec_X12_begins_1 3 rfl) (by decide) ?_
    obtain ⟨σ6, e_σ6, hf⟩ := cL_some hf
    refine r_puti (k := 56) cls12 ct12 fi_12_56.1 fi_12_56.2 fp_12_56.1 fp_12_56.2 q_1064 rfl rfl G w k_a0.1 k_a0.2 (dcs_get dec_X12_begins_1 4 rfl) (fun H locs w => ?_)
    have w := Wd.nm e_σ6 w
    have e9 := hr _ (Option.some.inj hf).symm
    exact r_vret G w hm e9 (dcs_get dec_X12_begins_1 5 rfl)
  · rw [if_neg hc] at hf
    refine lv_aload_n G.hx G.hb (dcs_get dec_X12_begins_0 21 rfl) rfl (lv_at hl 0 rfl) ?_
    refine lv_aload_n G.hx G.hb (dcs_get dec_X12_begins_0 22 rfl) rfl (lv_at hl 0 rfl) ?_
    obtain ⟨z7, e_z7, ok_z7, hf⟩ := cR_some hf
    have k_z7 := okr_in ok_z7
    refine r_getr (k := 28) cls12 fi_12_28.1 fi_12_28.2 q_1036 G w k_a0.1 k_a0.2 e_z7 (dcs_get dec_X12_begins_0 23 rfl) ?_
    refine lv_iconst (v := (4 : Int32)) G.hx G.hb (dcs_get dec_X12_begins_0 24 rfl) (by decide) ?_
    refine lv_aload_n G.hx G.hb (dcs_get dec_X12_begins_0 25 rfl) rfl (lv_at hl 0 rfl) ?_
    refine r_geti (k := 18) cls12 fi_12_18.1 fi_12_18.2 q_1026 G w k_a0.1 k_a0.2 (dcs_get dec_X12_begins_0 26 rfl) ?_
    refine lv_imul G.hx G.hb (dcs_get dec_X12_begins_0 27 rfl) ?_
    refine lv_iload_n G.hx G.hb (dcs_get dec_X12_begins_0 28 rfl) rfl (lv_at hl 1 rfl) ?_
    refine lv_iadd G.hx G.hb (dcs_get dec_X12_begins_0 29 rfl) ?_
    obtain ⟨h8, hf⟩ := cG_some hf
    refine r_iald G w k_z7.1 k_z7.2 h8 (dcs_get dec_X12_begins_0 30 rfl) ?_
    refine lv_iload_n G.hx G.hb (dcs_get dec_X12_begins_0 31 rfl) rfl (lv_at hl 1 rfl) ?_
    obtain ⟨σ10, h9, hf⟩ := cB_some hf
    refine a_v (k_V (As := [.int (σ.1 z7 (((4 : Int32) * (σ.1 a0 18)) + l1).toNatClampNeg), .int l1]) (rest := []) cls12 lb_X12_knowsFromBegin lv_X12_knowsFromBegin q_1001 (C_X12_knowsFromBegin G.2.2.1 a0 (σ.1 z7 (((4 : Int32) * (σ.1 a0 18)) + l1).toNatClampNeg) l1 σ h9 ok_a0) ⟨(Nat.le_of_ble_eq_true rfl), (Nat.le_of_ble_eq_true rfl)⟩ G w k_a0.1 k_a0.2 rfl rfl hl.1 (Nat.le_of_ble_eq_true rfl) (dcs_get dec_X12_begins_0 32 rfl) ⟨Nat.le_refl _, Nat.le_refl _⟩) G w (fun H locs w => ?_)
    obtain ⟨v11, e_v11, hf⟩ := cL_some hf
    refine lv_iinc (v := v11) (lv' := [(1, .int v11), (0, .ref (ad a0))]) G.hx G.hb (dcs_get dec_X12_begins_0 33 rfl) hl (k := 1) rfl (by rw [e_v11]; rfl) (by decide) rfl (fun ls hl => ?_)
    refine lv_goto (tgt := 24) G.hx G.hb (dcs_get dec_X12_begins_0 34 rfl) (by decide) ?_
    exact hb0 _ (Option.some.inj hf).symm _ _ _ w (lv_sub hl [1, 0] rfl)
set_option maxRecDepth 100000 in
set_option maxHeartbeats 4000000 in
theorem H_X12_begins_24 {σ0 : hSt} (a0 : Nat) (G : Gx p m c cX12_begins 2 s args RX12 D ay NM ad (aN NM ad)) (hm : meth.sig.returnType = none ∧ meth.locks = false) (ok_a0 : okr kM NM 12 a0 = true)  : ∀ (k : Nat) (v : Int32 × hSt), lp (S_X12_begins_24 a0) k v = some σ0 → ∀ (H : Heap) (locs : List Loc) (ls : Array Slot), Wd D ay kM NM ad (aN NM ad) s v.2 H locs → lv_has ls 2 [(0, .ref (ad a0)), (1, .int v.1)] → W p l e (rmK 1 22) s m args below meth c H locs 0 0 (MQ below (cV D ay kM NM ad σ0) args s 0 0 (aN NM ad)) (F0 m 24 ls []) := by
  intro k
  induction k with
  | zero => intro v hf; cases hf
  | succ k ih =>
    intro v hf H locs ls w hl
    obtain ⟨o1, h1, h2, h3⟩ := lp_some hf
    exact B_X12_begins_24b a0 v.1 v.2 G hm ok_a0 h1  (fun v' e => ih v' (h2 v' e)) (fun x e => h3 x e) w hl
set_option maxRecDepth 100000 in
set_option maxHeartbeats 4000000 in
theorem B_X12_begins_24 {H : Heap} {locs : List Loc} {ls : Array Slot} {σ0 : hSt} (a0 : Nat) (l1 : Int32) (σ : hSt) (G : Gx p m c cX12_begins 2 s args RX12 D ay NM ad (aN NM ad)) (hm : meth.sig.returnType = none ∧ meth.locks = false) (ok_a0 : okr kM NM 12 a0 = true) (hf : F_X12_begins_24 a0 l1 σ = some σ0)  (w : Wd D ay kM NM ad (aN NM ad) s σ H locs) (hl : lv_has ls 2 [(0, .ref (ad a0)), (1, .int l1)]) : W p l e (rmK 1 22) s m args below meth c H locs 0 0 (MQ below (cV D ay kM NM ad σ0) args s 0 0 (aN NM ad)) (F0 m 24 ls []) := by
  unfold F_X12_begins_24 at hf
  exact H_X12_begins_24 a0  G hm ok_a0  fuel (l1, σ) hf _ _ _ w hl
set_option maxRecDepth 100000 in
set_option maxHeartbeats 4000000 in
theorem B_X12_begins_2b {H : Heap} {locs : List Loc} {ls : Array Slot} {σ0 : hSt} {o : (Int32 × hSt) ⊕ (hSt)} (a0 : Nat) (l1 : Int32) (σ : hSt) (G : Gx p m c cX12_begins 2 s args RX12 D ay NM ad (aN NM ad)) (hm : meth.sig.returnType = none ∧ meth.locks = false) (ok_a0 : okr kM NM 12 a0 = true) (hf : F_X12_begins_2b a0 l1 σ = some o) (hb0 : ∀ (v : Int32 × hSt), o = .inl v → ∀ (H : Heap) (locs : List Loc) (ls : Array Slot), Wd D ay kM NM ad (aN NM ad) s v.2 H locs → lv_has ls 2 [(0, .ref (ad a0)), (1, .int v.1)] → W p l e (rmK 1 22) s m args below meth c H locs 0 0 (MQ below (cV D ay kM NM ad σ0) args s 0 0 (aN NM ad)) (F0 m 2 ls [])) (hr : ∀ x, o = .inr (x) → x = σ0) (w : Wd D ay kM NM ad (aN NM ad) s σ H locs) (hl : lv_has ls 2 [(0, .ref (ad a0)), (1, .int l1)]) : W p l e (rmK 1 22) s m args below meth c H locs 0 0 (MQ below (cV D ay kM NM ad σ0) args s 0 0 (aN NM ad)) (F0 m 2 ls []) := by
  have k_a0 := okr_in ok_a0
  unfold F_X12_begins_2b at hf
  refine lv_iload_n G.hx G.hb (dcs_get dec_X12_begins_0 2 rfl) rfl (lv_at hl 1 rfl) ?_
  refine lv_sipush (v := (380 : Int32)) G.hx G.hb (dcs_get dec_X12_begins_0 3 rfl) (by decide) ?_
  refine lv_icmp_ge (tgt := 22) G.hx G.hb (dcs_get dec_X12_begins_0 4 rfl) (by decide) (fun hc => ?_) (fun hc => ?_)
  · rw [if_pos hc] at hf
    refine lv_iconst (v := (0 : Int32)) G.hx G.hb (dcs_get dec_X12_begins_0 12 rfl) (by decide) ?_
    refine lv_istore_n (lv' := [(1, .int (0 : Int32)), (0, .ref (ad a0))]) G.hx G.hb (dcs_get dec_X12_begins_0 13 rfl) rfl hl (by decide) rfl (fun ls hl => ?_)
    obtain ⟨x9, h9, e9⟩ := map_some_inv hf
    subst e9
    have e8 := hr _ rfl
    rw [e8] at h9
    exact B_X12_begins_24 a0 (0 : Int32) σ G hm ok_a0 h9 w (lv_sub hl [1, 0] rfl)
  · rw [if_neg hc] at hf
    refine lv_aload_n G.hx G.hb (dcs_get dec_X12_begins_0 5 rfl) rfl (lv_at hl 0 rfl) ?_
    obtain ⟨z12, e_z12, ok_z12, hf⟩ := cR_some hf
    have k_z12 := okr_in ok_z12
    refine r_getr (k := 54) cls12 fi_12_54.1 fi_12_54.2 q_1062 G w k_a0.1 k_a0.2 e_z12 (dcs_get dec_X12_begins_0 6 rfl) ?_
    refine lv_iload_n G.hx G.hb (dcs_get dec_X12_begins_0 7 rfl) rfl (lv_at hl 1 rfl) ?_
    refine lv_iconst (v := (0 : Int32)) G.hx G.hb (dcs_get dec_X12_begins_0 8 rfl) (by decide) ?_
    obtain ⟨h13, hf⟩ := cG_some hf
    obtain ⟨σ14, e_σ14, hf⟩ := cL_some hf
    refine r_iast G w k_z12.1 k_z12.2 h13 (dcs_get dec_X12_begins_0 9 rfl) (fun H locs w => ?_)
    have w := Wd.nm e_σ14 w
    obtain ⟨v15, e_v15, hf⟩ := cL_some hf
    refine lv_iinc (v := v15) (lv' := [(1, .int v15), (0, .ref (ad a0))]) G.hx G.hb (dcs_get dec_X12_begins_0 10 rfl) hl (k := 1) rfl (by rw [e_v15]; rfl) (by decide) rfl (fun ls hl => ?_)
    refine lv_goto (tgt := 2) G.hx G.hb (dcs_get dec_X12_begins_0 11 rfl) (by decide) ?_
    exact hb0 _ (Option.some.inj hf).symm _ _ _ w (lv_sub hl [1, 0] rfl)
set_option maxRecDepth 100000 in
set_option maxHeartbeats 4000000 in
theorem H_X12_begins_2 {σ0 : hSt} (a0 : Nat) (G : Gx p m c cX12_begins 2 s args RX12 D ay NM ad (aN NM ad)) (hm : meth.sig.returnType = none ∧ meth.locks = false) (ok_a0 : okr kM NM 12 a0 = true)  : ∀ (k : Nat) (v : Int32 × hSt), lp (S_X12_begins_2 a0) k v = some σ0 → ∀ (H : Heap) (locs : List Loc) (ls : Array Slot), Wd D ay kM NM ad (aN NM ad) s v.2 H locs → lv_has ls 2 [(0, .ref (ad a0)), (1, .int v.1)] → W p l e (rmK 1 22) s m args below meth c H locs 0 0 (MQ below (cV D ay kM NM ad σ0) args s 0 0 (aN NM ad)) (F0 m 2 ls []) := by
  intro k
  induction k with
  | zero => intro v hf; cases hf
  | succ k ih =>
    intro v hf H locs ls w hl
    obtain ⟨o1, h1, h2, h3⟩ := lp_some hf
    exact B_X12_begins_2b a0 v.1 v.2 G hm ok_a0 h1  (fun v' e => ih v' (h2 v' e)) (fun x e => h3 x e) w hl
set_option maxRecDepth 100000 in
set_option maxHeartbeats 4000000 in
theorem B_X12_begins_2 {H : Heap} {locs : List Loc} {ls : Array Slot} {σ0 : hSt} (a0 : Nat) (l1 : Int32) (σ : hSt) (G : Gx p m c cX12_begins 2 s args RX12 D ay NM ad (aN NM ad)) (hm : meth.sig.returnType = none ∧ meth.locks = false) (ok_a0 : okr kM NM 12 a0 = true) (hf : F_X12_begins_2 a0 l1 σ = some σ0)  (w : Wd D ay kM NM ad (aN NM ad) s σ H locs) (hl : lv_has ls 2 [(0, .ref (ad a0)), (1, .int l1)]) : W p l e (rmK 1 22) s m args below meth c H locs 0 0 (MQ below (cV D ay kM NM ad σ0) args s 0 0 (aN NM ad)) (F0 m 2 ls []) := by
  unfold F_X12_begins_2 at hf
  exact H_X12_begins_2 a0  G hm ok_a0  fuel (l1, σ) hf _ _ _ w hl
set_option maxRecDepth 100000 in
set_option maxHeartbeats 4000000 in
theorem B_X12_begins_0 {H : Heap} {locs : List Loc} {ls : Array Slot} {σ0 : hSt} (a0 : Nat) (σ : hSt) (G : Gx p m c cX12_begins 2 s args RX12 D ay NM ad (aN NM ad)) (hm : meth.sig.returnType = none ∧ meth.locks = false) (ok_a0 : okr kM NM 12 a0 = true) (hf : F_X12_begins a0 σ = some σ0)  (w : Wd D ay kM NM ad (aN NM ad) s σ H locs) (hl : lv_has ls 2 [(0, .ref (ad a0))]) : W p l e (rmK 1 22) s m args below meth c H locs 0 0 (MQ below (cV D ay kM NM ad σ0) args s 0 0 (aN NM ad)) (F0 m 0 ls []) := by
  have k_a0 := okr_in ok_a0
  unfold F_X12_begins at hf
  refine lv_iconst (v := (0 : Int32)) G.hx G.hb (dcs_get dec_X12_begins_0 0 rfl) (by decide) ?_
  refine lv_istore_n (lv' := [(1, .int (0 : Int32)), (0, .ref (ad a0))]) G.hx G.hb (dcs_get dec_X12_begins_0 1 rfl) rfl hl (by decide) rfl (fun ls hl => ?_)
  exact B_X12_begins_2 a0 (0 : Int32) σ G hm ok_a0 hf  w (lv_sub hl [1, 0] rfl)
end
set_option maxRecDepth 100000 in
set_option maxHeartbeats 4000000 in
theorem C_X12_begins {l : Launch} {D : va_G} {ay : Nat → ClassId} {ad : Nat → Nat} (hi : hInj NM ad) (a0 : Nat) (σ : hSt) {σ0 : hSt} (hf : F_X12_begins a0 σ = some σ0) (ok_a0 : okr kM NM 12 a0 = true) : hM l D ay kM NM ad yX12_begins cX12_begins 2 (none) (rmK 1 22) [.ref (ad a0)] σ (cV D ay kM NM ad σ0) := by
  refine hM_in (by decide) hi (Nat.le_of_ble_eq_true rfl) ?_
  intro p e s m below meth c G hm w ls hl
  exact B_X12_begins_0 a0 σ G hm ok_a0 hf w (lv_sub hl [0] rfl)
