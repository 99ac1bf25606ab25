/-! HillDrumsModel.agreed(IIII)I -/
def DL_X12_agreed_0 : List (Nat × Instr × Nat) := [(0, .aload_n 0, 1), (1, .iload_n 1, 1), (2, .invokevirtual 342, 3), (5, .ifCond .eq 33, 3), (8, .aload_n 0, 1), (9, .iload_n 2, 1), (10, .invokevirtual 342, 3), (13, .ifCond .eq 25, 3), (16, .iload_n 1, 1), (17, .iload_n 2, 1), (18, .if_icmp .eq 20, 3), (21, .aload_n 0, 1), (22, .iload_n 3, 1), (23, .invokevirtual 377, 3), (26, .ifCond .eq 12, 3), (29, .aload_n 0, 1), (30, .iload 4, 2), (32, .invokevirtual 377, 3), (35, .ifCond .ne 5, 3), (38, .iconst (-1), 1), (39, .ireturn, 1), (40, .aload_n 0, 1), (41, .invokevirtual 380, 3), (44, .iconst 0, 1), (45, .istore 5, 2), (47, .iload 5, 2), (49, .sipush 200, 3), (52, .if_icmp .gt 54, 3), (55, .aload_n 0, 1), (56, .iload_n 1, 1), (57, .iload_n 3, 1), (58, .invokevirtual 354, 3), (61, .ifCond .eq 35, 3), (64, .aload_n 0, 1), (65, .iload_n 1, 1), (66, .iload 4, 2), (68, .invokevirtual 354, 3), (71, .ifCond .eq 25, 3), (74, .aload_n 0, 1), (75, .iload_n 2, 1)]
set_option maxRecDepth 100000 in
theorem dec_X12_agreed_0 : dcs cX12_agreed DL_X12_agreed_0 = true := by decide +kernel
def DL_X12_agreed_1 : List (Nat × Instr × Nat) := [(76, .iload_n 3, 1), (77, .invokevirtual 354, 3), (80, .ifCond .eq 16, 3), (83, .aload_n 0, 1), (84, .iload_n 2, 1), (85, .iload 4, 2), (87, .invokevirtual 354, 3), (90, .ifCond .eq 6, 3), (93, .iload 5, 2), (95, .ireturn, 1), (96, .aload_n 0, 1), (97, .invokevirtual 390, 3), (100, .iinc 5 1, 3), (103, .goto (-56), 3), (106, .bipush (-2), 2), (108, .ireturn, 1)]
set_option maxRecDepth 100000 in
theorem dec_X12_agreed_1 : dcs cX12_agreed DL_X12_agreed_1 = true := by decide +kernel
theorem lb_X12_agreed : lkB yX12_agreed cX12_agreed 6 ((some .int)) 4 := ⟨q_1459, q_14, ⟨by decide, by decide⟩, by decide +kernel⟩
theorem lv_X12_agreed : lkV yX12_agreed := ⟨q_1457, q_1458⟩
def F_X12_agreed_38  (σ : hSt) : Option (Int32 × hSt) :=
some (((-1 : Int32), σ))
def F_X12_agreed_96 (a0 : Nat) (l1 : Int32) (l2 : Int32) (l3 : Int32) (l4 : Int32) (l5 : Int32) (σ : hSt) : Option ((Int32 × hSt) ⊕ (Int32 × hSt)) :=
(F_X12_dayByRule a0 σ).bind fun σ2 =>
cL (l5 + (1 : Int32)) fun v3 =>
some (.inl (v3, σ2))
def F_X12_agreed_47b (a0 : Nat) (l1 : Int32) (l2 : Int32) (l3 : Int32) (l4 : Int32) (l5 : Int32) (σ : hSt) : Option ((Int32 × hSt) ⊕ (Int32 × hSt)) :=
if (200 : Int32) < l5 then (
some (.inr (((-2 : Int32), σ)))) else (
(F_X12_knows a0 l1 l3 σ).bind fun v5 =>
if v5 = 0 then (
F_X12_agreed_96 a0 l1 l2 l3 l4 l5 σ) else (
(F_X12_knows a0 l1 l4 σ).bind fun v7 =>
if v7 = 0 then (
F_X12_agreed_96 a0 l1 l2 l3 l4 l5 σ) else (
(F_X12_knows a0 l2 l3 σ).bind fun v9 =>
if v9 = 0 then (
F_X12_agreed_96 a0 l1 l2 l3 l4 l5 σ) else (
(F_X12_knows a0 l2 l4 σ).bind fun v11 =>
if v11 = 0 then (
F_X12_agreed_96 a0 l1 l2 l3 l4 l5 σ) else (
some (.inr ((l5, σ))))))))
def S_X12_agreed_47 (a0 : Nat) (l1 : Int32) (l2 : Int32) (l3 : Int32) (l4 : Int32) (v : Int32 × hSt) : Option ((Int32 × hSt) ⊕ (Int32 × hSt)) := F_X12_agreed_47b a0 l1 l2 l3 l4 v.1 v.2
def F_X12_agreed_47 (a0 : Nat) (l1 : Int32) (l2 : Int32) (l3 : Int32) (l4 : Int32) (l5 : Int32) (σ : hSt) : Option (Int32 × hSt) := lp (S_X12_agreed_47 a0 l1 l2 l3 l4) fuel (l5, σ)
def F_X12_agreed (a0 : Nat) (l1 : Int32) (l2 : Int32) (l3 : Int32) (l4 : Int32) (σ : hSt) : Option (Int32 × hSt) :=
(F_X12_isHill a0 l1 σ).bind fun v13 =>
if v13 = 0 then (
F_X12_agreed_38  σ) else (
(F_X12_isHill a0 l2 σ).bind fun v15 =>
if v15 = 0 then (
F_X12_agreed_38  σ) else (
if l1 = l2 then (
F_X12_agreed_38  σ) else (
(F_X12_isNews a0 l3 σ).bind fun v17 =>
if v17 = 0 then (
F_X12_agreed_38  σ) else (
(F_X12_isNews a0 l4 σ).bind fun v19 =>
if v19 = 0 then (
F_X12_agreed_38  σ) else (
(F_X12_copies a0 σ).bind fun σ21 =>
F_X12_agreed_47 a0 l1 l2 l3 l4 (0 : Int32) σ21)))))
section
variable {p : Program} {l : Launch} {e : Env} {s : State} {m : MethodId} {args : Array Value} {below : List Frame} {meth : Method} {c : Code} {D : va_G} {ay : Nat → ClassId} {ad : Nat → Nat}
set_option maxRecDepth 100000 in
set_option maxHeartbeats 4000000 in
theorem B_X12_agreed_38 {H : Heap} {locs : List Loc} {ls : Array Slot} {r0 : Int32} {σ0 : hSt}  (σ : hSt) (G : Gx p m c cX12_agreed 6 s args RX12 D ay NM ad (aN NM ad)) (hm : meth.sig.returnType = (some .int) ∧ meth.locks = false)  (hf : F_X12_agreed_38  σ = some (r0, σ0))  (w : Wd D ay kM NM ad (aN NM ad) s σ H locs) (hl : lv_has ls 6 []) : W p l e (rmK 6 147) s m args below meth c H locs 0 0 (MQ below (cI D ay kM NM ad r0 σ0) args s 0 0 (aN NM ad)) (F0 m 38 ls []) := by
  unfold F_X12_agreed_38 at hf
  refine lv_iconst (v := (-1 : Int32)) G.hx G.hb (dcs_get dec_X12_agreed_0 19 rfl) (by decide) ?_
  have e9 := Option.some.inj hf
  exact r_iret G w hm (congrArg Prod.fst e9) (congrArg Prod.snd e9) (dcs_get dec_X12_agreed_0 20 rfl)
set_option maxRecDepth 100000 in
set_option maxHeartbeats 4000000 in
theorem B_X12_agreed_96 {H : Heap} {locs : List Loc} {ls : Array Slot} {r0 : Int32} {σ0 : hSt} {o : (Int32 × hSt) ⊕ (Int32 × hSt)} (a0 : Nat) (l1 : Int32) (l2 : Int32) (l3 : Int32) (l4 : Int32) (l5 : Int32) (σ : hSt) (G : Gx p m c cX12_agreed 6 s args RX12 D ay NM ad (aN NM ad)) (hm : meth.sig.returnType = (some .int) ∧ meth.locks = false) (ok_a0 : okr kM NM 12 a0 = true) (hf : F_X12_agreed_96 a0 l1 l2 l3 l4 l5 σ = some o) (hb0 : ∀ (v : Int32 × hSt), o = .inl v → ∀ (H : Heap) (locs : List Loc) (ls : Array Slot), Wd D ay kM NM ad (aN NM ad) s v.2 H locs → lv_has ls 6 [(0, .ref (ad a0)), (1, .int l1), (2, .int l2), (3, .int l3), (4, .int l4), (5, .int v.1)] → W p l e (rmK 6 147) s m args below meth c H locs 0 0 (MQ below (cI D ay kM NM ad r0 σ0) args s 0 0 (aN NM ad)) (F0 m 47 ls [])) (hr : ∀ x, o = .inr (x) → x = (r0, σ0)) (w : Wd D ay kM NM ad (aN NM ad) s σ H locs) (hl : lv_has ls 6 [(0, .ref (ad a0)), (1, .int l1), (2, .int l2), (3, .int l3), (4, .int l4), (5, .int l5)]) : W p l e (rmK 6 147) s m args below meth c H locs 0 0 (MQ below (cI D ay kM NM ad r0 σ0) args s 0 0 (aN NM ad)) (F0 m 96 ls []) := by
  have k_a0 := okr_in ok_a0
  unfold F_X12_agreed_96 at hf
  refine lv_aload_n G.hx G.hb (dcs_get dec_X12_agreed_1 10 rfl) rfl (lv_at hl 0 rfl) ?_
  obtain ⟨σ2, h1, hf⟩ := cB_some hf
  refine a_v (k_V (As := []) (rest := []) cls12 lb_X12_dayByRule lv_X12_dayByRule q_1436 (C_X12_dayByRule G.2.2.1 a0 σ h1 ok_a0) ⟨(Nat.le_of_ble_eq_true rfl), (Nat.le_of_ble_eq_true rfl)⟩ G w k_a0.1 k_a0.2 rfl rfl hl.1 (Nat.le_of_ble_eq_true rfl) (dcs_get dec_X12_agreed_1 11 rfl) ⟨Nat.le_refl _, Nat.le_refl _⟩) G w (fun H locs w => ?_)
  obtain ⟨v3, e_v3, hf⟩ := cL_some hf
  refine lv_iinc (v := v3) (lv' := [(5, .int v3), (0, .ref (ad a0)), (1, .int l1), (2, .int l2), (3, .int l3), (4, .int l4)]) G.hx G.hb (dcs_get dec_X12_agreed_1 12 rfl) hl (k := 5) rfl (by rw [e_v3]; rfl) (by decide) rfl (fun ls hl => ?_)
  refine lv_goto (tgt := 47) G.hx G.hb (dcs_get dec_X12_agreed_1 13 rfl) (by decide) ?_
  exact hb0 _ (Option.some.inj hf).symm _ _ _ w (lv_sub hl [1, 2, 3, 4, 5, 0] rfl)
set_option maxRecDepth 100000 in
set_option maxHeartbeats 4000000 in
theorem B_X12_agreed_47b {H : Heap} {locs : List Loc} {ls : Array Slot} {r0 : Int32} {σ0 : hSt} {o : (Int32 × hSt) ⊕ (Int32 × hSt)} (a0 : Nat) (l1 : Int32) (l2 : Int32) (l3 : Int32) (l4 : Int32) (l5 : Int32) (σ : hSt) (G : Gx p m c cX12_agreed 6 s args RX12 D ay NM ad (aN NM ad)) (hm : meth.sig.returnType = (some .int) ∧ meth.locks = false) (ok_a0 : okr kM NM 12 a0 = true) (hf : F_X12_agreed_47b a0 l1 l2 l3 l4 l5 σ = some o) (hb0 : ∀ (v : Int32 × hSt), o = .inl v → ∀ (H : Heap) (locs : List Loc) (ls : Array Slot), Wd D ay kM NM ad (aN NM ad) s v.2 H locs → lv_has ls 6 [(0, .ref (ad a0)), (1, .int l1), (2, .int l2), (3, .int l3), (4, .int l4), (5, .int v.1)] → W p l e (rmK 6 147) s m args below meth c H locs 0 0 (MQ below (cI D ay kM NM ad r0 σ0) args s 0 0 (aN NM ad)) (F0 m 47 ls [])) (hr : ∀ x, o = .inr (x) → x = (r0, σ0)) (w : Wd D ay kM NM ad (aN NM ad) s σ H locs) (hl : lv_has ls 6 [(0, .ref (ad a0)), (1, .int l1), (2, .int l2), (3, .int l3), (4, .int l4), (5, .int l5)]) : W p l e (rmK 6 147) s m args below meth c H locs 0 0 (MQ below (cI D ay kM NM ad r0 σ0) args s 0 0 (aN NM ad)) (F0 m 47 ls []) := by
  have k_a0 := okr_in ok_a0
  unfold F_X12_agreed_47b at hf
  refine lv_iload G.hx G.hb (dcs_get dec_X12_agreed_0 25 rfl) (lv_at hl 5 rfl) ?_
  refine lv_sipush (v := (200 : Int32)) G.hx G.hb (dcs_get dec_X12_agreed_0 26 rfl) (by decide) ?_
  refine lv_icmp_gt (tgt := 106) G.hx G.hb (dcs_get dec_X12_agreed_0 27 rfl) (by decide) (fun hc => ?_) (fun hc => ?_)
  · rw [if_pos hc] at hf
    refine lv_bipush (v := (-2 : Int32)) G.hx G.hb (dcs_get dec_X12_agreed_1 14 rfl) (by decide) ?_
    have e9 := hr _ (Option.some.inj hf).symm
    exact r_iret G w hm (congrArg Prod.fst e9) (congrArg Prod.snd e9) (dcs_get dec_X12_agreed_1 15 rfl)
  · rw [if_neg hc] at hf
    refine lv_aload_n G.hx G.hb (dcs_get dec_X12_agreed_0 28 rfl) rfl (lv_at hl 0 rfl) ?_
    refine lv_iload_n G.hx G.hb (dcs_get dec_X12_agreed_0 29 rfl) rfl (lv_at hl 1 rfl) ?_
    refine lv_iload_n G.hx G.hb (dcs_get dec_X12_agreed_0 30 rfl) rfl (lv_at hl 3 rfl) ?_
    obtain ⟨v5, h4, hf⟩ := cB_some hf
    refine a_i (k_V (As := [.int l1, .int l3]) (rest := []) cls12 lb_X12_knows lv_X12_knows q_1392 (C_X12_knows G.2.2.1 a0 l1 l3 σ h4 ok_a0) ⟨(Nat.le_of_ble_eq_true rfl), (Nat.le_of_ble_eq_true rfl)⟩ G w k_a0.1 k_a0.2 rfl rfl hl.1 (Nat.le_of_ble_eq_true rfl) (dcs_get dec_X12_agreed_0 31 rfl) ⟨Nat.le_refl _, Nat.le_refl _⟩) G w (fun H locs w => ?_)
    refine lv_if_eq (tgt := 96) G.hx G.hb (dcs_get dec_X12_agreed_0 32 rfl) (by decide) (fun hc => ?_) (fun hc => ?_)
    · rw [if_pos hc] at hf
      exact B_X12_agreed_96 a0 l1 l2 l3 l4 l5 σ G hm ok_a0 hf hb0 hr w (lv_sub hl [0, 1, 2, 3, 4, 5] rfl)
    · rw [if_neg hc] at hf
      refine lv_aload_n G.hx G.hb (dcs_get dec_X12_agreed_0 33 rfl) rfl (lv_at hl 0 rfl) ?_
      refine lv_iload_n G.hx G.hb (dcs_get dec_X12_agreed_0 34 rfl) rfl (lv_at hl 1 rfl) ?_
      refine lv_iload G.hx G.hb (dcs_get dec_X12_agreed_0 35 rfl) (lv_at hl 4 rfl) ?_
      obtain ⟨v7, h6, hf⟩ := cB_some hf
      refine a_i (k_V (As := [.int l1, .int l4]) (rest := []) cls12 lb_X12_knows lv_X12_knows q_1392 (C_X12_knows G.2.2.1 a0 l1 l4 σ h6 ok_a0) ⟨(Nat.le_of_ble_eq_true rfl), (Nat.le_of_ble_eq_true rfl)⟩ G w k_a0.1 k_a0.2 rfl rfl hl.1 (Nat.le_of_ble_eq_true rfl) (dcs_get dec_X12_agreed_0 36 rfl) ⟨Nat.le_refl _, Nat.le_refl _⟩) G w (fun H locs w => ?_)
      refine lv_if_eq (tgt := 96) G.hx G.hb (dcs_get dec_X12_agreed_0 37 rfl) (by decide) (fun hc => ?_) (fun hc => ?_)
      · rw [if_pos hc] at hf
        exact B_X12_agreed_96 a0 l1 l2 l3 l4 l5 σ G hm ok_a0 hf hb0 hr w (lv_sub hl [0, 1, 2, 3, 4, 5] rfl)
      · rw [if_neg hc] at hf
        refine lv_aload_n G.hx G.hb (dcs_get dec_X12_agreed_0 38 rfl) rfl (lv_at hl 0 rfl) ?_
        refine lv_iload_n G.hx G.hb (dcs_get dec_X12_agreed_0 39 rfl) rfl (lv_at hl 2 rfl) ?_
        refine lv_iload_n G.hx G.hb (dcs_get dec_X12_agreed_1 0 rfl) rfl (lv_at hl 3 rfl) ?_
        obtain ⟨v9, h8, hf⟩ := cB_some hf
        refine a_i (k_V (As := [.int l2, .int l3]) (rest := []) cls12 lb_X12_knows lv_X12_knows q_1392 (C_X12_knows G.2.2.1 a0 l2 l3 σ h8 ok_a0) ⟨(Nat.le_of_ble_eq_true rfl), (Nat.le_of_ble_eq_true rfl)⟩ G w k_a0.1 k_a0.2 rfl rfl hl.1 (Nat.le_of_ble_eq_true rfl) (dcs_get dec_X12_agreed_1 1 rfl) ⟨Nat.le_refl _, Nat.le_refl _⟩) G w (fun H locs w => ?_)
        refine lv_if_eq (tgt := 96) G.hx G.hb (dcs_get dec_X12_agreed_1 2 rfl) (by decide) (fun hc => ?_) (fun hc => ?_)
        · rw [if_pos hc] at hf
          exact B_X12_agreed_96 a0 l1 l2 l3 l4 l5 σ G hm ok_a0 hf hb0 hr w (lv_sub hl [0, 1, 2, 3, 4, 5] rfl)
        · rw [if_neg hc] at hf
          refine lv_aload_n G.hx G.hb (dcs_get dec_X12_agreed_1 3 rfl) rfl (lv_at hl 0 rfl) ?_
          refine lv_iload_n G.hx G.hb (dcs_get dec_X12_agreed_1 4 rfl) rfl (lv_at hl 2 rfl) ?_
          refine lv_iload G.hx G.hb (dcs_get dec_X12_agreed_1 5 rfl) (lv_at hl 4 rfl) ?_
          obtain ⟨v11, h10, hf⟩ := cB_some hf
          refine a_i (k_V (As := [.int l2, .int l4]) (rest := []) cls12 lb_X12_knows lv_X12_knows q_1392 (C_X12_knows G.2.2.1 a0 l2 l4 σ h10 ok_a0) ⟨(Nat.le_of_ble_eq_true rfl), (Nat.le_of_ble_eq_true rfl)⟩ G w k_a0.1 k_a0.2 rfl rfl hl.1 (Nat.le_of_ble_eq_true rfl) (dcs_get dec_X12_agreed_1 6 rfl) ⟨Nat.le_refl _, Nat.le_refl _⟩) G w (fun H locs w => ?_)
          refine lv_if_eq (tgt := 96) G.hx G.hb (dcs_get dec_X12_agreed_1 7 rfl) (by decide) (fun hc => ?_) (fun hc => ?_)
          · rw [if_pos hc] at hf
            exact B_X12_agreed_96 a0 l1 l2 l3 l4 l5 σ G hm ok_a0 hf hb0 hr w (lv_sub hl [0, 1, 2, 3, 4, 5] rfl)
          · rw [if_neg hc] at hf
            refine lv_iload G.hx G.hb (dcs_get dec_X12_agreed_1 8 rfl) (lv_at hl 5 rfl) ?_
            have e9 := hr _ (Option.some.inj hf).symm
            exact r_iret G w hm (congrArg Prod.fst e9) (congrArg Prod.snd e9) (dcs_get dec_X12_agreed_1 9 rfl)
set_option maxRecDepth 100000 in
set_option maxHeartbeats 4000000 in
theorem H_X12_agreed_47 {r0 : Int32} {σ0 : hSt} (a0 : Nat) (l1 : Int32) (l2 : Int32) (l3 : Int32) (l4 : Int32) (G : Gx p m c cX12_agreed 6 s args RX12 D ay NM ad (aN NM ad)) (hm : meth.sig.returnType = (some .int) ∧ meth.locks = false) (ok_a0 : okr kM NM 12 a0 = true)  : ∀ (k : Nat) (v : Int32 × hSt), lp (S_X12_agreed_47 a0 l1 l2 l3 l4) k v = some (r0, σ0) → ∀ (H : Heap) (locs : List Loc) (ls : Array Slot), Wd D ay kM NM ad (aN NM ad) s v.2 H locs → lv_has ls 6 [(0, .ref (ad a0)), (1, .int l1), (2, .int l2), (3, .int l3), (4, .int l4), (5, .int v.1)] → W p l e (rmK 6 147) s m args below meth c H locs 0 0 (MQ below (cI D ay kM NM ad r0 σ0) args s 0 0 (aN NM ad)) (F0 m 47 ls []) := by
  intro k
  induction k with
  | zero => intro v hf; cases hf
  | succ k ih =>
    intro v hf H locs ls w hl
    obtain ⟨o1, h1, h2, h3⟩ := lp_some hf
    exact B_X12_agreed_47b a0 l1 l2 l3 l4 v.1 v.2 G hm ok_a0 h1  (fun v' e => ih v' (h2 v' e)) (fun x e => h3 x e) w hl
set_option maxRecDepth 100000 in
set_option maxHeartbeats 4000000 in
theorem B_X12_agreed_47 {H : Heap} {locs : List Loc} {ls : Array Slot} {r0 : Int32} {σ0 : hSt} (a0 : Nat) (l1 : Int32) (l2 : Int32) (l3 : Int32) (l4 : Int32) (l5 : Int32) (σ : hSt) (G : Gx p m c cX12_agreed 6 s args RX12 D ay NM ad (aN NM ad)) (hm : meth.sig.returnType = (some .int) ∧ meth.locks = false) (ok_a0 : okr kM NM 12 a0 = true) (hf : F_X12_agreed_47 a0 l1 l2 l3 l4 l5 σ = some (r0, σ0))  (w : Wd D ay kM NM ad (aN NM ad) s σ H locs) (hl : lv_has ls 6 [(0, .ref (ad a0)), (1, .int l1), (2, .int l2), (3, .int l3), (4, .int l4), (5, .int l5)]) : W p l e (rmK 6 147) s m args below meth c H locs 0 0 (MQ below (cI D ay kM NM ad r0 σ0) args s 0 0 (aN NM ad)) (F0 m 47 ls []) := by
  unfold F_X12_agreed_47 at hf
  exact H_X12_agreed_47 a0 l1 l2 l3 l4  G hm ok_a0  fuel (l5, σ) hf _ _ _ w hl
set_option maxRecDepth 100000 in
set_option maxHeartbeats 4000000 in
theorem B_X12_agreed_0 {H : Heap} {locs : List Loc} {ls : Array Slot} {r0 : Int32} {σ0 : hSt} (a0 : Nat) (l1 : Int32) (l2 : Int32) (l3 : Int32) (l4 : Int32) (σ : hSt) (G : Gx p m c cX12_agreed 6 s args RX12 D ay NM ad (aN NM ad)) (hm : meth.sig.returnType = (some .int) ∧ meth.locks = false) (ok_a0 : okr kM NM 12 a0 = true) (hf : F_X12_agreed a0 l1 l2 l3 l4 σ = some (r0, σ0))  (w : Wd D ay kM NM ad (aN NM ad) s σ H locs) (hl : lv_has ls 6 [(0, .ref (ad a0)), (1, .int l1), (2, .int l2), (3, .int l3), (4, .int l4)]) : W p l e (rmK 6 147) s m args below meth c H locs 0 0 (MQ below (cI D ay kM NM ad r0 σ0) args s 0 0 (aN NM ad)) (F0 m 0 ls []) := by
  have k_a0 := okr_in ok_a0
  unfold F_X12_agreed at hf
  refine lv_aload_n G.hx G.hb (dcs_get dec_X12_agreed_0 0 rfl) rfl (lv_at hl 0 rfl) ?_
  refine lv_iload_n G.hx G.hb (dcs_get dec_X12_agreed_0 1 rfl) rfl (lv_at hl 1 rfl) ?_
  obtain ⟨v13, h12, hf⟩ := cB_some hf
  refine a_i (k_V (As := [.int l1]) (rest := []) cls12 lb_X12_isHill lv_X12_isHill q_1346 (C_X12_isHill G.2.2.1 a0 l1 σ h12 ok_a0) ⟨(Nat.le_of_ble_eq_true rfl), (Nat.le_of_ble_eq_true rfl)⟩ G w k_a0.1 k_a0.2 rfl rfl hl.1 (Nat.le_of_ble_eq_true rfl) (dcs_get dec_X12_agreed_0 2 rfl) ⟨Nat.le_refl _, Nat.le_refl _⟩) G w (fun H locs w => ?_)
  refine lv_if_eq (tgt := 38) G.hx G.hb (dcs_get dec_X12_agreed_0 3 rfl) (by decide) (fun hc => ?_) (fun hc => ?_)
  · rw [if_pos hc] at hf
    exact B_X12_agreed_38  σ G hm  hf  w (lv_sub hl [] rfl)
  · rw [if_neg hc] at hf
    refine lv_aload_n G.hx G.hb (dcs_get dec_X12_agreed_0 4 rfl) rfl (lv_at hl 0 rfl) ?_
    refine lv_iload_n G.hx G.hb (dcs_get dec_X12_agreed_0 5 rfl) rfl (lv_at hl 2 rfl) ?_
    obtain ⟨v15, h14, hf⟩ := cB_some hf
    refine a_i (k_V (As := [.int l2]) (rest := []) cls12 lb_X12_isHill lv_X12_isHill q_1346 (C_X12_isHill G.2.2.1 a0 l2 σ h14 ok_a0) ⟨(Nat.le_of_ble_eq_true rfl), (Nat.le_of_ble_eq_true rfl)⟩ G w k_a0.1 k_a0.2 rfl rfl hl.1 (Nat.le_of_ble_eq_true rfl) (dcs_get dec_X12_agreed_0 6 rfl) ⟨Nat.le_refl _, Nat.le_refl _⟩) G w (fun H locs w => ?_)
    refine lv_if_eq (tgt := 38) G.hx G.hb (dcs_get dec_X12_agreed_0 7 rfl) (by decide) (fun hc => ?_) (fun hc => ?_)
    · rw [if_pos hc] at hf
      exact B_X12_agreed_38  σ G hm  hf  w (lv_sub hl [] rfl)
    · rw [if_neg hc] at hf
      refine lv_iload_n G.hx G.hb (dcs_get dec_X12_agreed_0 8 rfl) rfl (lv_at hl 1 rfl) ?_
      refine lv_iload_n G.hx G.hb (dcs_get dec_X12_agreed_0 9 rfl) rfl (lv_at hl 2 rfl) ?_
      refine lv_icmp_eq (tgt := 38) G.hx G.hb (dcs_get dec_X12_agreed_0 10 rfl) (by decide) (fun hc => ?_) (fun hc => ?_)
      · rw [if_pos hc] at hf
        exact B_X12_agreed_38  σ G hm  hf  w (lv_sub hl [] rfl)
      · rw [if_neg hc] at hf
        refine lv_aload_n G.hx G.hb (dcs_get dec_X12_agreed_0 11 rfl) rfl (lv_at hl 0 rfl) ?_
        refine lv_iload_n G.hx G.hb (dcs_get dec_X12_agreed_0 12 rfl) rfl (lv_at hl 3 rfl) ?_
        obtain ⟨v17, h16, hf⟩ := cB_some hf
        refine a_i (k_V (As := [.int l3]) (rest := []) cls12 lb_X12_isNews lv_X12_isNews q_1376 (C_X12_isNews G.2.2.1 a0 l3 σ h16 ok_a0) ⟨(Nat.le_of_ble_eq_true rfl), (Nat.le_of_ble_eq_true rfl)⟩ G w k_a0.1 k_a0.2 rfl rfl hl.1 (Nat.le_of_ble_eq_true rfl) (dcs_get dec_X12_agreed_0 13 rfl) ⟨Nat.le_refl _, Nat.le_refl _⟩) G w (fun H locs w => ?_)
        refine lv_if_eq (tgt := 38) G.hx G.hb (dcs_get dec_X12_agreed_0 14 rfl) (by decide) (fun hc => ?_) (fun hc => ?_)
        · rw [if_pos hc] at hf
          exact B_X12_agreed_38  σ G hm  hf  w (lv_sub hl [] rfl)
        · rw [if_neg hc] at hf
          refine lv_aload_n G.hx G.hb (dcs_get dec_X12_agreed_0 15 rfl) rfl (lv_at hl 0 rfl) ?_
          refine lv_iload G.hx G.hb (dcs_get dec_X12_agreed_0 16 rfl) (lv_at hl 4 rfl) ?_
          obtain ⟨v19, h18, hf⟩ := cB_some hf
          refine a_i (k_V (As := [.int l4]) (rest := []) cls12 lb_X12_isNews lv_X12_isNews q_1376 (C_X12_isNews G.2.2.1 a0 l4 σ h18 ok_a0) ⟨(Nat.le_of_ble_eq_true rfl), (Nat.le_of_ble_eq_true rfl)⟩ G w k_a0.1 k_a0.2 rfl rfl hl.1 (Nat.le_of_ble_eq_true rfl) (dcs_get dec_X12_agreed_0 17 rfl) ⟨Nat.le_refl _, Nat.le_refl _⟩) G w (fun H locs w => ?_)
          refine lv_if_ne (tgt := 40) G.hx G.hb (dcs_get dec_X12_agreed_0 18 rfl) (by decide) (fun hc => ?_) (fun hc => ?_)
          · rw [if_neg hc] at hf
            refine lv_aload_n G.hx G.hb (dcs_get dec_X12_agreed_0 21 rfl) rfl (lv_at hl 0 rfl) ?_
            obtain ⟨σ21, h20, hf⟩ := cB_some hf
            refine a_v (k_V (As := []) (rest := []) cls12 lb_X12_copies lv_X12_copies q_1388 (C_X12_copies G.2.2.1 a0 σ h20 ok_a0) ⟨(Nat.le_of_ble_eq_true rfl), (Nat.le_of_ble_eq_true rfl)⟩ G w k_a0.1 k_a0.2 rfl rfl hl.1 (Nat.le_of_ble_eq_true rfl) (dcs_get dec_X12_agreed_0 22 rfl) ⟨Nat.le_refl _, Nat.le_refl _⟩) G w (fun H locs w => ?_)
            refine lv_iconst (v := (0 : Int32)) G.hx G.hb (dcs_get dec_X12_agreed_0 23 rfl) (by decide) ?_
            refine lv_istore (lv' := [(5, .int (0 : Int32)), (0, .ref (ad a0)), (1, .int l1), (2, .int l2), (3, .int l3), (4, .int l4)]) G.hx G.hb (dcs_get dec_X12_agreed_0 24 rfl) hl (by decide) rfl (fun ls hl => ?_)
            exact B_X12_agreed_47 a0 l1 l2 l3 l4 (0 : Int32) σ21 G hm ok_a0 hf  w (lv_sub hl [1, 2, 3, 4, 5, 0] rfl)
          · rw [if_pos hc] at hf
            exact B_X12_agreed_38  σ G hm  hf  w (lv_sub hl [] rfl)
end
set_option maxRecDepth 100000 in
set_option maxHeartbeats 4000000 in
theorem C_X12_agreed {l : Launch} {D : va_G} {ay : Nat → ClassId} {ad : Nat → Nat} (hi : hInj NM ad) (a0 : Nat) (l1 : Int32) (l2 : Int32) (l3 : Int32) (l4 : Int32) (σ : hSt) {r0 : Int32} {σ0 : hSt} (hf : F_X12_agreed a0 l1 l2 l3 l4 σ = some (r0, σ0)) (ok_a0 : okr kM NM 12 a0 = true) : hM l D ay kM NM ad yX12_agreed cX12_agreed 6 ((some .int)) (rmK 6 147) [.ref (ad a0), .int l1, .int l2, .int l3, .int l4] σ (cI D ay kM NM ad r0 σ0) := by
  refine hM_in (by decide) hi (Nat.le_of_ble_eq_true rfl) ?_
  intro p e s m below meth c G hm w ls hl
  exact B_X12_agreed_0 a0 l1 l2 l3 l4 σ G hm ok_a0 hf w (lv_sub hl [0, 1, 2, 3, 4] rfl)

/-! HillDrumsModel.talk(I)I -/
def DL_X12_talk_0 : List (Nat × Instr × Nat) := [(0, .iload_n 1, 1), (1, .iconst 1, 1), (2, .sipush 200, 3), (5, .invokestatic 323, 3), (8, .ifCond .ne 5, 3), (11, .iconst (-1), 1), (12, .ireturn, 1), (13, .aload_n 0, 1), (14, .invokevirtual 380, 3), (17, .aload_n 0, 1), (18, .getfield 128, 3), (21, .bipush 122, 2), (23, .iaload, 1), (24, .istore_n 2, 1), (25, .iconst 0, 1), (26, .istore_n 3, 1), (27, .iload_n 3, 1), (28, .iload_n 1, 1), (29, .if_icmp .ge 13, 3), (32, .aload_n 0, 1), (33, .invokevirtual 390, 3), (36, .iinc 3 1, 3), (39, .goto (-12), 3), (42, .aload_n 0, 1), (43, .getfield 128, 3), (46, .bipush 122, 2), (48, .iaload, 1), (49, .iload_n 2, 1), (50, .isub, 1), (51, .ireturn, 1)]
set_option maxRecDepth 100000 in
theorem dec_X12_talk_0 : dcs cX12_talk DL_X12_talk_0 = true := by decide +kernel
theorem lb_X12_talk : lkB yX12_talk cX12_talk 4 ((some .int)) 1 := ⟨q_1463, q_14, ⟨by decide, by decide⟩, by decide +kernel⟩
theorem lv_X12_talk : lkV yX12_talk := ⟨q_1461, q_1462⟩
def F_X12_talk_27b (a0 : Nat) (l1 : Int32) (l2 : Int32) (l3 : Int32) (σ : hSt) : Option ((Int32 × hSt) ⊕ (Int32 × hSt)) :=
if l1 ≤ l3 then (
cR (σ.2.2 a0 54) (okr kM NM 101) fun z1 =>
cG (inb (122 : Int32) (kM z1).2) <|
some (.inr (((σ.1 z1 (122 : Int32).toNatClampNeg) - l2, σ)))) else (
(F_X12_dayByRule a0 σ).bind fun σ4 =>
cL (l3 + (1 : Int32)) fun v5 =>
some (.inl (v5, σ4)))
def S_X12_talk_27 (a0 : Nat) (l1 : Int32) (l2 : Int32) (v : Int32 × hSt) : Option ((Int32 × hSt) ⊕ (Int32 × hSt)) := F_X12_talk_27b a0 l1 l2 v.1 v.2
def F_X12_talk_27 (a0 : Nat) (l1 : Int32) (l2 : Int32) (l3 : Int32) (σ : hSt) : Option (Int32 × hSt) := lp (S_X12_talk_27 a0 l1 l2) fuel (l3, σ)
def F_X12_talk (a0 : Nat) (l1 : Int32) (σ : hSt) : Option (Int32 × hSt) :=
(F_X12_in l1 (1 : Int32) (200 : Int32) σ).bind fun v7 =>
if v7 = 0 then (
some (((-1 : Int32), σ))) else (
(F_X12_copies a0 σ).bind fun σ9 =>
cR (σ9.2.2 a0 54) (okr kM NM 101) fun z10 =>
cG (inb (122 : Int32) (kM z10).2) <|
cL (σ9.1 z10 (122 : Int32).toNatClampNeg) fun v12 =>
F_X12_talk_27 a0 l1 v12 (0 : Int32) σ9)
section
variable {p : Program} {l : Launch} {e : Env} {s : State} {m : MethodId} {args : Array Value} {below : List Frame} {meth : Method} {c : Code} {D : va_G} {ay : Nat → ClassId} {ad : Nat → Nat}
set_option maxRecDepth 100000 in
set_option maxHeartbeats 4000000 in
theorem B_X12_talk_27b {H : Heap} {locs : List Loc} {ls : Array Slot} {r0 : Int32} {σ0 : hSt} {o : (Int32 × hSt) ⊕ (Int32 × hSt)} (a0 : Nat) (l1 : Int32) (l2 : Int32) (l3 : Int32) (σ : hSt) (G : Gx p m c cX12_talk 4 s args RX12 D ay NM ad (aN NM ad)) (hm : meth.sig.returnType = (some .int) ∧ meth.locks = false) (ok_a0 : okr kM NM 12 a0 = true) (hf : F_X12_talk_27b a0 l1 l2 l3 σ = some o) (hb0 : ∀ (v : Int32 × hSt), o = .inl v → ∀ (H : Heap) (locs : List Loc) (ls : Array Slot), Wd D ay kM NM ad (aN NM ad) s v.2 H locs → lv_has ls 4 [(0, .ref (ad a0)), (1, .int l1), (2, .int l2), (3, .int v.1)] → W p l e (rmK 6 147) s m args below meth c H locs 0 0 (MQ below (cI D ay kM NM ad r0 σ0) args s 0 0 (aN NM ad)) (F0 m 27 ls [])) (hr : ∀ x, o = .inr (x) → x = (r0, σ0)) (w : Wd D ay kM NM ad (aN NM ad) s σ H locs) (hl : lv_has ls 4 [(0, .ref (ad a0)), (1, .int l1), (2, .int l2), (3, .int l3)]) : W p l e (rmK 6 147) s m args below meth c H locs 0 0 (MQ below (cI D ay kM NM ad r0 σ0) args s 0 0 (aN NM ad)) (F0 m 27 ls []) := by
  have k_a0 := okr_in ok_a0
  unfold F_X12_talk_27b at hf
  refine lv_iload_n G.hx G.hb (dcs_get dec_X12_talk_0 16 rfl) rfl (lv_at hl 3 rfl) ?_
  refine lv_iload_n G.hx G.hb (dcs_get dec_X12_talk_0 17 rfl) rfl (lv_at hl 1 rfl) ?_
  refine lv_icmp_ge (tgt := 42) G.hx G.hb (dcs_get dec_X12_talk_0 18 rfl) (by decide) (fun hc => ?_) (fun hc => ?_)
  · rw [if_pos hc] at hf
    refine lv_aload_n G.hx G.hb (dcs_get dec_X12_talk_0 23 rfl) rfl (lv_at hl 0 rfl) ?_
    obtain ⟨z1, e_z1, ok_z1, hf⟩ := cR_some hf
    have k_z1 := okr_in ok_z1
    refine r_getr (k := 54) cls12 fi_12_54.1 fi_12_54.2 q_1062 G w k_a0.1 k_a0.2 e_z1 (dcs_get dec_X12_talk_0 24 rfl) ?_
    refine lv_bipush (v := (122 : Int32)) G.hx G.hb (dcs_get dec_X12_talk_0 25 rfl) (by decide) ?_
    obtain ⟨h2, hf⟩ := cG_some hf
    refine r_iald G w k_z1.1 k_z1.2 h2 (dcs_get dec_X12_talk_0 26 rfl) ?_
    refine lv_iload_n G.hx G.hb (dcs_get dec_X12_talk_0 27 rfl) rfl (lv_at hl 2 rfl) ?_
    refine lv_isub G.hx G.hb (dcs_get dec_X12_talk_0 28 rfl) ?_
    have e9 := hr _ (Option.some.inj hf).symm
    exact r_iret G w hm (congrArg Prod.fst e9) (congrArg Prod.snd e9) (dcs_get dec_X12_talk_0 29 rfl)
  · rw [if_neg hc] at hf
    refine lv_aload_n G.hx G.hb (dcs_get dec_X12_talk_0 19 rfl) rfl (lv_at hl 0 rfl) ?_
    obtain ⟨σ4, h3, hf⟩ := cB_some hf
    refine a_v (k_V (As := []) (rest := []) cls12 lb_X12_dayByRule lv_X12_dayByRule q_1436 (C_X12_dayByRule G.2.2.1 a0 σ h3 ok_a0) ⟨(Nat.le_of_ble_eq_true rfl), (Nat.le_of_ble_eq_true rfl)⟩ G w k_a0.1 k_a0.2 rfl rfl hl.1 (Nat.le_of_ble_eq_true rfl) (dcs_get dec_X12_talk_0 20 rfl) ⟨Nat.le_refl _, Nat.le_refl _⟩) G w (fun H locs w => ?_)
    obtain ⟨v5, e_v5, hf⟩ := cL_some hf
    refine lv_iinc (v := v5) (lv' := [(3, .int v5), (0, .ref (ad a0)), (1, .int l1), (2, .int l2)]) G.hx G.hb (dcs_get dec_X12_talk_0 21 rfl) hl (k := 3) rfl (by rw [e_v5]; rfl) (by decide) rfl (fun ls hl => ?_)
    refine lv_goto (tgt := 27) G.hx G.hb (dcs_get dec_X12_talk_0 22 rfl) (by decide) ?_
    exact hb0 _ (Option.some.inj hf).symm _ _ _ w (lv_sub hl [1, 2, 3, 0] rfl)
set_option maxRecDepth 100000 in
set_option maxHeartbeats 4000000 in
theorem H_X12_talk_27 {r0 : Int32} {σ0 : hSt} (a0 : Nat) (l1 : Int32) (l2 : Int32) (G : Gx p m c cX12_talk 4 s args RX12 D ay NM ad (aN NM ad)) (hm : meth.sig.returnType = (some .int) ∧ meth.locks = false) (ok_a0 : okr kM NM 12 a0 = true)  : ∀ (k : Nat) (v : Int32 × hSt), lp (S_X12_talk_27 a0 l1 l2) k v = some (r0, σ0) → ∀ (H : Heap) (locs : List Loc) (ls : Array Slot), Wd D ay kM NM ad (aN NM ad) s v.2 H locs → lv_has ls 4 [(0, .ref (ad a0)), (1, .int l1), (2, .int l2), (3, .int v.1)] → W p l e (rmK 6 147) s m args below meth c H locs 0 0 (MQ below (cI D ay kM NM ad r0 σ0) args s 0 0 (aN NM ad)) (F0 m 27 ls []) := by
  intro k
  induction k with
  | zero => intro v hf; cases hf
  | succ k ih =>
    intro v hf H locs ls w hl
    obtain ⟨o1, h1, h2, h3⟩ := lp_some hf
    exact B_X12_talk_27b a0 l1 l2 v.1 v.2 G hm ok_a0 h1  (fun v' e => ih v' (h2 v' e)) (fun x e => h3 x e) w hl
set_option maxRecDepth 100000 in
set_option maxHeartbeats 4000000 in
theorem B_X12_talk_27 {H : Heap} {locs : List Loc} {ls : Array Slot} {r0 : Int32} {σ0 : hSt} (a0 : Nat) (l1 : Int32) (l2 : Int32) (l3 : Int32) (σ : hSt) (G : Gx p m c cX12_talk 4 s args RX12 D ay NM ad (aN NM ad)) (hm : meth.sig.returnType = (some .int) ∧ meth.locks = false) (ok_a0 : okr kM NM 12 a0 = true) (hf : F_X12_talk_27 a0 l1 l2 l3 σ = some (r0, σ0))  (w : Wd D ay kM NM ad (aN NM ad) s σ H locs) (hl : lv_has ls 4 [(0, .ref (ad a0)), (1, .int l1), (2, .int l2), (3, .int l3)]) : W p l e (rmK 6 147) s m args below meth c H locs 0 0 (MQ below (cI D ay kM NM ad r0 σ0) args s 0 0 (aN NM ad)) (F0 m 27 ls []) := by
  unfold F_X12_talk_27 at hf
  exact H_X12_talk_27 a0 l1 l2  G hm ok_a0  fuel (l3, σ) hf _ _ _ w hl
set_option maxRecDepth 100000 in
set_option maxHeartbeats 4000000 in
theorem B_X12_talk_0 {H : Heap} {locs : List Loc} {ls : Array Slot} {r0 : Int32} {σ0 : hSt} (a0 : Nat) (l1 : Int32) (σ : hSt) (G : Gx p m c cX12_talk 4 s args RX12 D ay NM ad (aN NM ad)) (hm : meth.sig.returnType = (some .int) ∧ meth.locks = false) (ok_a0 : okr kM NM 12 a0 = true) (hf : F_X12_talk a0 l1 σ = some (r0, σ0))  (w : Wd D ay kM NM ad (aN NM ad) s σ H locs) (hl : lv_has ls 4 [(0, .ref (ad a0)), (1, .int l1)]) : W p l e (rmK 6 147) s m args below meth c H locs 0 0 (MQ below (cI D ay kM NM ad r0 σ0) args s 0 0 (aN NM ad)) (F0 m 0 ls []) := by
  have k_a0 := okr_in ok_a0
  unfold F_X12_talk at hf
  refine lv_iload_n G.hx G.hb (dcs_get dec_X12_talk_0 0 rfl) rfl (lv_at hl 1 rfl) ?_
  refine lv_iconst (v := (1 : Int32)) G.hx G.hb (dcs_get dec_X12_talk_0 1 rfl) (by decide) ?_
  refine lv_sipush (v := (200 : Int32)) G.hx G.hb (dcs_get dec_X12_talk_0 2 rfl) (by decide) ?_
  obtain ⟨v7, h6, hf⟩ := cB_some hf
  refine a_i (k_S (As := [.int l1, .int (1 : Int32), .int (200 : Int32)]) (rest := []) lb_X12_in q_1351 q_1350 (C_X12_in G.2.2.1 l1 (1 : Int32) (200 : Int32) σ h6 ) ⟨(Nat.le_of_ble_eq_true rfl), (Nat.le_of_ble_eq_true rfl)⟩ G w rfl rfl hl.1 (Nat.le_of_ble_eq_true rfl) (dcs_get dec_X12_talk_0 3 rfl) ⟨Nat.le_refl _, Nat.le_refl _⟩) G w (fun H locs w => ?_)
  refine lv_if_ne (tgt := 13) G.hx G.hb (dcs_get dec_X12_talk_0 4 rfl) (by decide) (fun hc => ?_) (fun hc => ?_)
  · rw [if_neg hc] at hf
    refine lv_aload_n G.hx G.hb (dcs_get dec_X12_talk_0 7 rfl) rfl (lv_at hl 0 rfl) ?_
    obtain ⟨σ9, h8, hf⟩ := cB_some hf
    refine a_v (k_V (As := []) (rest := []) cls12 lb_X12_copies lv_X12_copies q_1388 (C_X12_copies G.2.2.1 a0 σ h8 ok_a0) ⟨(Nat.le_of_ble_eq_true rfl), (Nat.le_of_ble_eq_true rfl)⟩ G w k_a0.1 k_a0.2 rfl rfl hl.1 (Nat.le_of_ble_eq_true rfl) (dcs_get dec_X12_talk_0 8 rfl) ⟨Nat.le_refl _, Nat.le_refl _⟩) G w (fun H locs w => ?_)
    refine lv_aload_n G.hx G.hb (dcs_get dec_X12_talk_0 9 rfl) rfl (lv_at hl 0 rfl) ?_
    obtain ⟨z10, e_z10, ok_z10, hf⟩ := cR_some hf
    have k_z10 := okr_in ok_z10
    refine r_getr (k := 54) cls12 fi_12_54.1 fi_12_54.2 q_1062 G w k_a0.1 k_a0.2 e_z10 (dcs_get dec_X12_talk_0 10 rfl) ?_
    refine lv_bipush (v := (122 : Int32)) G.hx G.hb (dcs_get dec_X12_talk_0 11 rfl) (by decide) ?_
    obtain ⟨h11, hf⟩ := cG_some hf
    refine r_iald G w k_z10.1 k_z10.2 h11 (dcs_get dec_X12_talk_0 12 rfl) ?_
    obtain ⟨v12, e_v12, hf⟩ := cL_some hf
    refine r_topi e_v12 ?_
    refine lv_istore_n (lv' := [(2, .int v12), (0, .ref (ad a0)), (1, .int l1)]) G.hx G.hb (dcs_get dec_X12_talk_0 13 rfl) rfl hl (by decide) rfl (fun ls hl => ?_)
    refine lv_iconst (v := (0 : Int32)) G.hx G.hb (dcs_get dec_X12_talk_0 14 rfl) (by decide) ?_
    refine lv_istore_n (lv' := [(3, .int (0 : Int32)), (2, .int v12), (0, .ref (ad a0)), (1, .int l1)]) G.hx G.hb (dcs_get dec_X12_talk_0 15 rfl) rfl hl (by decide) rfl (fun ls hl => ?_)
    exact B_X12_talk_27 a0 l1 v12 (0 : Int32) σ9 G hm ok_a0 hf  w (lv_sub hl [2, 3, 1, 0] rfl)
  · rw [if_pos hc] at hf
    refine lv_iconst (v := (-1 : Int32)) G.hx G.hb (dcs_get dec_X12_talk_0 5 rfl) (by decide) ?_
    have e9 := Option.some.inj hf
    exact r_iret G w hm (congrArg Prod.fst e9) (congrArg Prod.snd e9) (dcs_get dec_X12_talk_0 6 rfl)
end
set_option maxRecDepth 100000 in
set_option maxHeartbeats 4000000 in
theorem C_X12_talk {l : Launch} {D : va_G} {ay : Nat → ClassId} {ad : Nat → Nat} (hi : hInj NM ad) (a0 : Nat) (l1 : Int32) (σ : hSt) {r0 : Int32} {σ0 : hSt} (hf : F_X12_talk a0 l1 σ = some (r0, σ0)) (ok_a0 : okr kM NM 12 a0 = true) : hM l D ay kM NM ad yX12_talk cX12_talk 4 ((some .int)) (rmK 6 147) [.ref (ad a0), .int l1] σ (cI D ay kM NM ad r0 σ0) := by
  refine hM_in (by decide) hi (Nat.le_of_ble_eq_true rfl) ?_
  intro p e s m below meth c G hm w ls hl
  exact B_X12_talk_0 a0 l1 σ G hm ok_a0 hf w (lv_sub hl [0, 1] rfl)

/-! HillDrumsModel.allKnow(I)Z -/
def DL_X12_allKnow_0 : List (Nat × Instr × Nat) := [(0, .iconst 0, 1), (1, .istore_n 2, 1), (2, .iload_n 2, 1), (3, .aload_n 0, 1), (4, .getfield 49, 3), (7, .aload_n 0, 1), (8, .getfield 236, 3), (11, .iaload, 1), (12, .if_icmp .ge 20, 3), (15, .aload_n 0, 1), (16, .iload_n 2, 1), (17, .iload_n 1, 1), (18, .invokevirtual 354, 3), (21, .ifCond .ne 5, 3), (24, .iconst 0, 1), (25, .ireturn, 1), (26, .iinc 2 1, 3), (29, .goto (-27), 3), (32, .iconst 1, 1), (33, .ireturn, 1)]
set_option maxRecDepth 100000 in
theorem dec_X12_allKnow_0 : dcs cX12_allKnow DL_X12_allKnow_0 = true := by decide +kernel
theorem lb_X12_allKnow : lkB yX12_allKnow cX12_allKnow 3 ((some .boolean)) 1 := ⟨q_1471, q_14, ⟨by decide, by decide⟩, by decide +kernel⟩
theorem lv_X12_allKnow : lkV yX12_allKnow := ⟨q_1470, qs_111⟩
def F_X12_allKnow_2b (a0 : Nat) (l1 : Int32) (l2 : Int32) (σ : hSt) : Option ((Int32) ⊕ (Int32)) :=
cR (σ.2.2 a0 24) (okr kM NM 101) fun z1 =>
cG (inb (σ.1 a0 18) (kM z1).2) <|
if (σ.1 z1 (σ.1 a0 18).toNatClampNeg) ≤ l2 then (
some (.inr ((1 : Int32)))) else (
(F_X12_knows a0 l2 l1 σ).bind fun v4 =>
if v4 = 0 then (
some (.inr ((0 : Int32)))) else (
cL (l2 + (1 : Int32)) fun v5 =>
some (.inl (v5))))
def S_X12_allKnow_2 (a0 : Nat) (l1 : Int32) (σ : hSt) (v : Int32) : Option ((Int32) ⊕ (Int32)) := F_X12_allKnow_2b a0 l1 v σ
def F_X12_allKnow_2 (a0 : Nat) (l1 : Int32) (l2 : Int32) (σ : hSt) : Option (Int32) := lp (S_X12_allKnow_2 a0 l1 σ) fuel (l2)
def F_X12_allKnow (a0 : Nat) (l1 : Int32) (σ : hSt) : Option (Int32) :=
F_X12_allKnow_2 a0 l1 (0 : Int32) σ
section
variable {p : Program} {l : Launch} {e : Env} {s : State} {m : MethodId} {args : Array Value} {below : List Frame} {meth : Method} {c : Code} {D : va_G} {ay : Nat → ClassId} {ad : Nat → Nat}
set_option maxRecDepth 100000 in
set_option maxHeartbeats 4000000 in
theorem B_X12_allKnow_2b {H : Heap} {locs : List Loc} {ls : Array Slot} {r0 : Int32} {o : (Int32) ⊕ (Int32)} (a0 : Nat) (l1 : Int32) (l2 : Int32) (σ : hSt) (G : Gx p m c cX12_allKnow 3 s args RX12 D ay NM ad (aN NM ad)) (hm : meth.sig.returnType = (some .boolean) ∧ meth.locks = false) (ok_a0 : okr kM NM 12 a0 = true) (hf : F_X12_allKnow_2b a0 l1 l2 σ = some o) (hb0 : ∀ (v : Int32), o = .inl v → ∀ (H : Heap) (locs : List Loc) (ls : Array Slot), Wd D ay kM NM ad (aN NM ad) s σ H locs → lv_has ls 3 [(0, .ref (ad a0)), (1, .int l1), (2, .int v)] → W p l e (rmK 1 22) s m args below meth c H locs 0 0 (MQ below (cI D ay kM NM ad r0 σ) args s 0 0 (aN NM ad)) (F0 m 2 ls [])) (hr : ∀ x, o = .inr (x) → x = r0) (w : Wd D ay kM NM ad (aN NM ad) s σ H locs) (hl : lv_has ls 3 [(0, .ref (ad a0)), (1, .int l1), (2, .int l2)]) : W p l e (rmK 1 22) s m args below meth c H locs 0 0 (MQ below (cI D ay kM NM ad r0 σ) args s 0 0 (aN NM ad)) (F0 m 2 ls []) := by
  have k_a0 := okr_in ok_a0
  unfold F_X12_allKnow_2b at hf
  refine lv_iload_n G.hx G.hb (dcs_get dec_X12_allKnow_0 2 rfl) rfl (lv_at hl 2 rfl) ?_
  refine lv_aload_n G.hx G.hb (dcs_get dec_X12_allKnow_0 3 rfl) rfl (lv_at hl 0 rfl) ?_
  obtain ⟨z1, e_z1, ok_z1, hf⟩ := cR_some hf
  have k_z1 := okr_in ok_z1
  refine r_getr (k := 24) cls12 fi_12_24.1 fi_12_24.2 q_1032 G w k_a0.1 k_a0.2 e_z1 (dcs_get dec_X12_allKnow_0 4 rfl) ?_
  refine lv_aload_n G.hx G.hb (dcs_get dec_X12_allKnow_0 5 rfl) rfl (lv_at hl 0 rfl) ?_
  refine r_geti (k := 18) cls12 fi_12_18.1 fi_12_18.2 q_1026 G w k_a0.1 k_a0.2 (dcs_get dec_X12_allKnow_0 6 rfl) ?_
  obtain ⟨h2, hf⟩ := cG_some hf
  refine r_iald G w k_z1.1 k_z1.2 h2 (dcs_get dec_X12_allKnow_0 7 rfl) ?_
  refine lv_icmp_ge (tgt := 32) G.hx G.hb (dcs_get dec_X12_allKnow_0 8 rfl) (by decide) (fun hc => ?_) (fun hc => ?_)
  · rw [if_pos hc] at hf
    refine lv_iconst (v := (1 : Int32)) G.hx G.hb (dcs_get dec_X12_allKnow_0 18 rfl) (by decide) ?_
    have e9 := hr _ (Option.some.inj hf).symm
    exact r_zret rfl G w hm e9 rfl (dcs_get dec_X12_allKnow_0 19 rfl)
  · rw [if_neg hc] at hf
    refine lv_aload_n G.hx G.hb (dcs_get dec_X12_allKnow_0 9 rfl) rfl (lv_at hl 0 rfl) ?_
    refine lv_iload_n G.hx G.hb (dcs_get dec_X12_allKnow_0 10 rfl) rfl (lv_at hl 2 rfl) ?_
    refine lv_iload_n G.hx G.hb (dcs_get dec_X12_allKnow_0 11 rfl) rfl (lv_at hl 1 rfl) ?_
    obtain ⟨v4, h3, hf⟩ := cB_some hf
    refine a_i (k_V (As := [.int l2, .int l1]) (rest := []) cls12 lb_X12_knows lv_X12_knows q_1392 (C_X12_knows G.2.2.1 a0 l2 l1 σ h3 ok_a0) ⟨(Nat.le_of_ble_eq_true rfl), (Nat.le_of_ble_eq_true rfl)⟩ G w k_a0.1 k_a0.2 rfl rfl hl.1 (Nat.le_of_ble_eq_true rfl) (dcs_get dec_X12_allKnow_0 12 rfl) ⟨Nat.le_refl _, Nat.le_refl _⟩) G w (fun H locs w => ?_)
    refine lv_if_ne (tgt := 26) G.hx G.hb (dcs_get dec_X12_allKnow_0 13 rfl) (by decide) (fun hc => ?_) (fun hc => ?_)
    · rw [if_neg hc] at hf
      obtain ⟨v5, e_v5, hf⟩ := cL_some hf
      refine lv_iinc (v := v5) (lv' := [(2, .int v5), (0, .ref (ad a0)), (1, .int l1)]) G.hx G.hb (dcs_get dec_X12_allKnow_0 16 rfl) hl (k := 2) rfl (by rw [e_v5]; rfl) (by decide) rfl (fun ls hl => ?_)
      refine lv_goto (tgt := 2) G.hx G.hb (dcs_get dec_X12_allKnow_0 17 rfl) (by decide) ?_
      exact hb0 _ (Option.some.inj hf).symm _ _ _ w (lv_sub hl [1, 2, 0] rfl)
    · rw [if_pos hc] at hf
      refine lv_iconst (v := (0 : Int32)) G.hx G.hb (dcs_get dec_X12_allKnow_0 14 rfl) (by decide) ?_
      have e9 := hr _ (Option.some.inj hf).symm
      exact r_zret rfl G w hm e9 rfl (dcs_get dec_X12_allKnow_0 15 rfl)
set_option maxRecDepth 100000 in
set_option maxHeartbeats 4000000 in
theorem H_X12_allKnow_2 {r0 : Int32} (a0 : Nat) (l1 : Int32) (σ : hSt) (G : Gx p m c cX12_allKnow 3 s args RX12 D ay NM ad (aN NM ad)) (hm : meth.sig.returnType = (some .boolean) ∧ meth.locks = false) (ok_a0 : okr kM NM 12 a0 = true)  : ∀ (k : Nat) (v : Int32), lp (S_X12_allKnow_2 a0 l1 σ) k v = some r0 → ∀ (H : Heap) (locs : List Loc) (ls : Array Slot), Wd D ay kM NM ad (aN NM ad) s σ H locs → lv_has ls 3 [(0, .ref (ad a0)), (1, .int l1), (2, .int v)] → W p l e (rmK 1 22) s m args below meth c H locs 0 0 (MQ below (cI D ay kM NM ad r0 σ) args s 0 0 (aN NM ad)) (F0 m 2 ls []) := by
  intro k
  induction k with
  | zero => intro v hf; cases hf
  | succ k ih =>
    intro v hf H locs ls w hl
    obtain ⟨o1, h1, h2, h3⟩ := lp_some hf
    exact B_X12_allKnow_2b a0 l1 v σ G hm ok_a0 h1  (fun v' e => ih v' (h2 v' e)) (fun x e => h3 x e) w hl
set_option maxRecDepth 100000 in
set_option maxHeartbeats 4000000 in
theorem B_X12_allKnow_2 {H : Heap} {locs : List Loc} {ls : Array Slot} {r0 : Int32} (a0 : Nat) (l1 : Int32) (l2 : Int32) (σ : hSt) (G : Gx p m c cX12_allKnow 3 s args RX12 D ay NM ad (aN NM ad)) (hm : meth.sig.returnType = (some .boolean) ∧ meth.locks = false) (ok_a0 : okr kM NM 12 a0 = true) (hf : F_X12_allKnow_2 a0 l1 l2 σ = some r0)  (w : Wd D ay kM NM ad (aN NM ad) s σ H locs) (hl : lv_has ls 3 [(0, .ref (ad a0)), (1, .int l1), (2, .int l2)]) : W p l e (rmK 1 22) s m args below meth c H locs 0 0 (MQ below (cI D ay kM NM ad r0 σ) args s 0 0 (aN NM ad)) (F0 m 2 ls []) := by
  unfold F_X12_allKnow_2 at hf
  exact H_X12_allKnow_2 a0 l1 σ G hm ok_a0  fuel (l2) hf _ _ _ w hl
set_option maxRecDepth 100000 in
set_option maxHeartbeats 4000000 in
theorem B_X12_allKnow_0 {H : Heap} {locs : List Loc} {ls : Array Slot} {r0 : Int32} (a0 : Nat) (l1 : Int32) (σ : hSt) (G : Gx p m c cX12_allKnow 3 s args RX12 D ay NM ad (aN NM ad)) (hm : meth.sig.returnType = (some .boolean) ∧ meth.locks = false) (ok_a0 : okr kM NM 12 a0 = true) (hf : F_X12_allKnow a0 l1 σ = some r0)  (w : Wd D ay kM NM ad (aN NM ad) s σ H locs) (hl : lv_has ls 3 [(0, .ref (ad a0)), (1, .int l1)]) : W p l e (rmK 1 22) s m args below meth c H locs 0 0 (MQ below (cI D ay kM NM ad r0 σ) args s 0 0 (aN NM ad)) (F0 m 0 ls []) := by
  have k_a0 := okr_in ok_a0
  unfold F_X12_allKnow at hf
  refine lv_iconst (v := (0 : Int32)) G.hx G.hb (dcs_get dec_X12_allKnow_0 0 rfl) (by decide) ?_
  refine lv_istore_n (lv' := [(2, .int (0 : Int32)), (0, .ref (ad a0)), (1, .int l1)]) G.hx G.hb (dcs_get dec_X12_allKnow_0 1 rfl) rfl hl (by decide) rfl (fun ls hl => ?_)
  exact B_X12_allKnow_2 a0 l1 (0 : Int32) σ G hm ok_a0 hf  w (lv_sub hl [1, 2, 0] rfl)
end
set_option maxRecDepth 100000 in
set_option maxHeartbeats 4000000 in
theorem C_X12_allKnow {l : Launch} {D : va_G} {ay : Nat → ClassId} {ad : Nat → Nat} (hi : hInj NM ad) (a0 : Nat) (l1 : Int32) (σ : hSt) {r0 : Int32} (hf : F_X12_allKnow a0 l1 σ = some r0) (ok_a0 : okr kM NM 12 a0 = true) : hM l D ay kM NM ad yX12_allKnow cX12_allKnow 3 ((some .boolean)) (rmK 1 22) [.ref (ad a0), .int l1] σ (cI D ay kM NM ad r0 σ) := by
  refine hM_in (by decide) hi (Nat.le_of_ble_eq_true rfl) ?_
  intro p e s m below meth c G hm w ls hl
  exact B_X12_allKnow_0 a0 l1 σ G hm ok_a0 hf w (lv_sub hl [0, 1] rfl)

/-! HillDrumsModel.bestOrder(II)I -/
def DL_X12_bestOrder_0 : List (Nat × Instr × Nat) := [(0, .aload_n 0, 1), (1, .iload_n 1, 1), (2, .invokevirtual 377, 3), (5, .ifCond .eq 12, 3), (8, .iload_n 2, 1), (9, .iconst 0, 1), (10, .iconst 1, 1), (11, .invokestatic 323, 3), (14, .ifCond .ne 5, 3), (17, .iconst (-1), 1), (18, .ireturn, 1), (19, .bipush (-2), 2), (21, .istore_n 3, 1), (22, .bipush (-2), 2), (24, .istore 4, 2), (26, .iconst 0, 1), (27, .istore 5, 2), (29, .iload 5, 2), (31, .iconst 4, 1), (32, .if_icmp .ge 77, 3), (35, .aload_n 0, 1), (36, .invokevirtual 380, 3), (39, .aload_n 0, 1), (40, .iload 5, 2), (42, .putfield 348, 3), (45, .iconst 0, 1), (46, .istore 6, 2), (48, .iload 6, 2), (50, .sipush 200, 3), (53, .if_icmp .gt 21, 3), (56, .aload_n 0, 1), (57, .iload_n 1, 1), (58, .invokevirtual 396, 3), (61, .ifCond .ne 13, 3), (64, .aload_n 0, 1), (65, .invokevirtual 390, 3), (68, .iinc 6 1, 3), (71, .goto (-23), 3), (74, .iload 6, 2), (76, .sipush 200, 3)]
set_option maxRecDepth 100000 in
theorem dec_X12_bestOrder_0 : dcs cX12_bestOrder DL_X12_bestOrder_0 = true := by decide +kernel
def DL_X12_bestOrder_1 : List (Nat × Instr × Nat) := [(79, .if_icmp .gt 24, 3), (82, .iload_n 3, 1), (83, .ifCond .lt 13, 3), (86, .iload 6, 2), (88, .iload 4, 2), (90, .if_icmp .lt 6, 3), (93, .goto 10, 3), (96, .iload 5, 2), (98, .istore_n 3, 1), (99, .iload 6, 2), (101, .istore 4, 2), (103, .iinc 5 1, 3), (106, .goto (-77), 3), (109, .iload_n 2, 1), (110, .ifCond .ne 7, 3), (113, .iload_n 3, 1), (114, .goto 5, 3), (117, .iload 4, 2), (119, .ireturn, 1)]
set_option maxRecDepth 100000 in
theorem dec_X12_bestOrder_1 : dcs cX12_bestOrder DL_X12_bestOrder_1 = true := by decide +kernel
theorem lb_X12_bestOrder : lkB yX12_bestOrder cX12_bestOrder 7 ((some .int)) 2 := ⟨q_1467, q_14, ⟨by decide, by decide⟩, by decide +kernel⟩
theorem lv_X12_bestOrder : lkV yX12_bestOrder := ⟨q_1465, q_1466⟩
def F_X12_bestOrder_17  (σ : hSt) : Option (Int32 × hSt) :=
some (((-1 : Int32), σ))
def F_X12_bestOrder_103 (a0 : Nat) (l1 : Int32) (l2 : Int32) (l3 : Int32) (l4 : Int32) (l5 : Int32) (σ : hSt) : Option ((Int32 × Int32 × Int32 × hSt) ⊕ (Int32 × hSt)) :=
cL (l5 + (1 : Int32)) fun v1 =>
some (.inl (l3, l4, v1, σ))
def F_X12_bestOrder_96 (a0 : Nat) (l1 : Int32) (l2 : Int32) (l5 : Int32) (l6 : Int32) (σ : hSt) : Option ((Int32 × Int32 × Int32 × hSt) ⊕ (Int32 × hSt)) :=
F_X12_bestOrder_103 a0 l1 l2 l5 l6 l5 σ
def F_X12_bestOrder_74 (a0 : Nat) (l1 : Int32) (l2 : Int32) (l3 : Int32) (l4 : Int32) (l5 : Int32) (l6 : Int32) (σ : hSt) : Option ((Int32 × Int32 × Int32 × hSt) ⊕ (Int32 × hSt)) :=
if (200 : Int32) < l6 then (
F_X12_bestOrder_103 a0 l1 l2 l3 l4 l5 σ) else (
if l3 < 0 then (
F_X12_bestOrder_96 a0 l1 l2 l5 l6 σ) else (
if l6 < l4 then (
F_X12_bestOrder_96 a0 l1 l2 l5 l6 σ) else (
F_X12_bestOrder_103 a0 l1 l2 l3 l4 l5 σ)))
def F_X12_bestOrder_48b (a0 : Nat) (l1 : Int32) (l2 : Int32) (l3 : Int32) (l4 : Int32) (l5 : Int32) (l6 : Int32) (σ : hSt) : Option ((Int32 × hSt) ⊕ ((Int32 × Int32 × Int32 × hSt) ⊕ (Int32 × hSt))) :=
if (200 : Int32) < l6 then (
(F_X12_bestOrder_74 a0 l1 l2 l3 l4 l5 l6 σ).map (fun x => .inr (x))) else (
(F_X12_allKnow a0 l1 σ).bind fun v3 =>
if v3 = 0 then (
(F_X12_dayByRule a0 σ).bind fun σ5 =>
cL (l6 + (1 : Int32)) fun v6 =>
some (.inl (v6, σ5))) else (
(F_X12_bestOrder_74 a0 l1 l2 l3 l4 l5 l6 σ).map (fun x => .inr (x))))
def S_X12_bestOrder_48 (a0 : Nat) (l1 : Int32) (l2 : Int32) (l3 : Int32) (l4 : Int32) (l5 : Int32) (v : Int32 × hSt) : Option ((Int32 × hSt) ⊕ ((Int32 × Int32 × Int32 × hSt) ⊕ (Int32 × hSt))) := F_X12_bestOrder_48b a0 l1 l2 l3 l4 l5 v.1 v.2
def F_X12_bestOrder_48 (a0 : Nat) (l1 : Int32) (l2 : Int32) (l3 : Int32) (l4 : Int32) (l5 : Int32) (l6 : Int32) (σ : hSt) : Option ((Int32 × Int32 × Int32 × hSt) ⊕ (Int32 × hSt)) := lp (S_X12_bestOrder_48 a0 l1 l2 l3 l4 l5) fuel (l6, σ)
def F_X12_bestOrder_119 (s0 : Int32) (σ : hSt) : Option (Int32 × hSt) :=
some ((s0, σ))
def F_X12_bestOrder_29b (a0 : Nat) (l1 : Int32) (l2 : Int32) (l3 : Int32) (l4 : Int32) (l5 : Int32) (σ : hSt) : Option ((Int32 × Int32 × Int32 × hSt) ⊕ (Int32 × hSt)) :=
if (4 : Int32) ≤ l5 then (
if l2 = 0 then (
(F_X12_bestOrder_119 l3 σ).map (fun x => .inr (x))) else (
(F_X12_bestOrder_119 l4 σ).map (fun x => .inr (x)))) else (
(F_X12_copies a0 σ).bind fun σ8 =>
cL (uI σ8 a0 55 l5) fun σ9 =>
F_X12_bestOrder_48 a0 l1 l2 l3 l4 l5 (0 : Int32) σ9)
def S_X12_bestOrder_29 (a0 : Nat) (l1 : Int32) (l2 : Int32) (v : Int32 × Int32 × Int32 × hSt) : Option ((Int32 × Int32 × Int32 × hSt) ⊕ (Int32 × hSt)) := F_X12_bestOrder_29b a0 l1 l2 v.1 v.2.1 v.2.2.1 v.2.2.2
def F_X12_bestOrder_29 (a0 : Nat) (l1 : Int32) (l2 : Int32) (l3 : Int32) (l4 : Int32) (l5 : Int32) (σ : hSt) : Option (Int32 × hSt) := lp (S_X12_bestOrder_29 a0 l1 l2) fuel (l3, l4, l5, σ)
def F_X12_bestOrder (a0 : Nat) (l1 : Int32) (l2 : Int32) (σ : hSt) : Option (Int32 × hSt) :=
(F_X12_isNews a0 l1 σ).bind fun v11 =>
if v11 = 0 then (
F_X12_bestOrder_17  σ) else (
(F_X12_in l2 (0 : Int32) (1 : Int32) σ).bind fun v13 =>
if v13 = 0 then (
F_X12_bestOrder_17  σ) else (
F_X12_bestOrder_29 a0 l1 l2 (-2 : Int32) (-2 : Int32) (0 : Int32) σ))
section
variable {p : Program} {l : Launch} {e : Env} {s : State} {m : MethodId} {args : Array Value} {below : List Frame} {meth : Method} {c : Code} {D : va_G} {ay : Nat → ClassId} {ad : Nat → Nat}
set_option maxRecDepth 100000 in
set_option maxHeartbeats 4000000 in
theorem B_X12_bestOrder_17 {H : Heap} {locs : List Loc} {ls : Array Slot} {r0 : Int32} {σ0 : hSt}  (σ : hSt) (G : Gx p m c cX12_bestOrder 7 s args RX12 D ay NM ad (aN NM ad)) (hm : meth.sig.returnType = (some .int) ∧ meth.locks = false)  (hf : F_X12_bestOrder_17  σ = some (r0, σ0))  (w : Wd D ay kM NM ad (aN NM ad) s σ H locs) (hl : lv_has ls 7 []) : W p l e (rmK 6 147) s m args below meth c H locs 0 0 (MQ below (cI D ay kM NM ad r0 σ0) args s 0 0 (aN NM ad)) (F0 m 17 ls []) := by
  unfold F_X12_bestOrder_17 at hf
  refine lv_iconst (v := (-1 : Int32)) G.hx G.hb (dcs_get dec_X12_bestOrder_0 9 rfl) (by decide) ?_
  have e9 := Option.some.inj hf
  exact r_iret G w hm (congrArg Prod.fst e9) (congrArg Prod.snd e9) (dcs_get dec_X12_bestOrder_0 10 rfl)
set_option maxRecDepth 100000 in
set_option maxHeartbeats 4000000 in
theorem B_X12_bestOrder_103 {H : Heap} {locs : List Loc} {ls : Array Slot} {r0 : Int32} {σ0 : hSt} {o : (Int32 × Int32 × Int32 × hSt) ⊕ (Int32 × hSt)} (a0 : Nat) (l1 : Int32) (l2 : Int32) (l3 : Int32) (l4 : Int32) (l5 : Int32) (σ : hSt) (G : Gx p m c cX12_bestOrder 7 s args RX12 D ay NM ad (aN NM ad)) (hm : meth.sig.returnType = (some .int) ∧ meth.locks = false) (ok_a0 : okr kM NM 12 a0 = true) (hf : F_X12_bestOrder_103 a0 l1 l2 l3 l4 l5 σ = some o) (hb0 : ∀ (v : Int32 × Int32 × Int32 × hSt), o = .inl v → ∀ (H : Heap) (locs : List Loc) (ls : Array Slot), Wd D ay kM NM ad (aN NM ad) s v.2.2.2 H locs → lv_has ls 7 [(0, .ref (ad a0)), (1, .int l1), (2, .int l2), (3, .int v.1), (4, .int v.2.1), (5, .int v.2.2.1)] → W p l e (rmK 6 147) s m args below meth c H locs 0 0 (MQ below (cI D ay kM NM ad r0 σ0) args s 0 0 (aN NM ad)) (F0 m 29 ls [])) (hr : ∀ x, o = .inr (x) → x = (r0, σ0)) (w : Wd D ay kM NM ad (aN NM ad) s σ H locs) (hl : lv_has ls 7 [(0, .ref (ad a0)), (1, .int l1), (2, .int l2), (3, .int l3), (4, .int l4), (5, .int l5)]) : W p l e (rmK 6 147) s m args below meth c H locs 0 0 (MQ below (cI D ay kM NM ad r0 σ0) args s 0 0 (aN NM ad)) (F0 m 103 ls []) := by
  have k_a0 := okr_in ok_a0
  unfold F_X12_bestOrder_103 at hf
  obtain ⟨v1, e_v1, hf⟩ := cL_some hf
  refine lv_iinc (v := v1) (lv' := [(5, .int v1), (0, .ref (ad a0)), (1, .int l1), (2, .int l2), (3, .int l3), (4, .int l4)]) G.hx G.hb (dcs_get dec_X12_bestOrder_1 11 rfl) hl (k := 5) rfl (by rw [e_v1]; rfl) (by decide) rfl (fun ls hl => ?_)
  refine lv_goto (tgt := 29) G.hx G.hb (dcs_get dec_X12_bestOrder_1 12 rfl) (by decide) ?_
  exact hb0 _ (Option.some.inj hf).symm _ _ _ w (lv_sub hl [1, 2, 3, 4, 5, 0] rfl)
set_option maxRecDepth 100000 in
set_option maxHeartbeats 4000000 in
theorem B_X12_bestOrder_96 {H : Heap} {locs : List Loc} {ls : Array Slot} {r0 : Int32} {σ0 : hSt} {o : (Int32 × Int32 × Int32 × hSt) ⊕ (Int32 × hSt)} (a0 : Nat) (l1 : Int32) (l2 : Int32) (l5 : Int32) (l6 : Int32) (σ : hSt) (G : Gx p m c cX12_bestOrder 7 s args RX12 D ay NM ad (aN NM ad)) (hm : meth.sig.returnType = (some .int) ∧ meth.locks = false) (ok_a0 : okr kM NM 12 a0 = true) (hf : F_X12_bestOrder_96 a0 l1 l2 l5 l6 σ = some o) (hb0 : ∀ (v : Int32 × Int32 × Int32 × hSt), o = .inl v → ∀ (H : Heap) (locs : List Loc) (ls : Array Slot), Wd D ay kM NM ad (aN NM ad) s v.2.2.2 H locs → lv_has ls 7 [(0, .ref (ad a0)), (1, .int l1), (2, .int l2), (3, .int v.1), (4, .int v.2.1), (5, .int v.2.2.1)] → W p l e (rmK 6 147) s m args below meth c H locs 0 0 (MQ below (cI D ay kM NM ad r0 σ0) args s 0 0 (aN NM ad)) (F0 m 29 ls [])) (hr : ∀ x, o = .inr (x) → x = (r0, σ0)) (w : Wd D ay kM NM ad (aN NM ad) s σ H locs) (hl : lv_has ls 7 [(0, .ref (ad a0)), (1, .int l1), (2, .int l2), (5, .int l5), (6, .int l6)]) : W p l e (rmK 6 147) s m args below meth c H locs 0 0 (MQ below (cI D ay kM NM ad r0 σ0) args s 0 0 (aN NM ad)) (F0 m 96 ls []) := by
  have k_a0 := okr_in ok_a0
  unfold F_X12_bestOrder_96 at hf
  refine lv_iload G.hx G.hb (dcs_get dec_X12_bestOrder_1 7 rfl) (lv_at hl 3 rfl) ?_
  refine lv_istore_n (lv' := [(3, .int l5), (0, .ref (ad a0)), (1, .int l1), (2, .int l2), (5, .int l5), (6, .int l6)]) G.hx G.hb (dcs_get dec_X12_bestOrder_1 8 rfl) rfl hl (by decide) rfl (fun ls hl => ?_)
  refine lv_iload G.hx G.hb (dcs_get dec_X12_bestOrder_1 9 rfl) (lv_at hl 5 rfl) ?_
  refine lv_istore (lv' := [(4, .int l6), (3, .int l5), (0, .ref (ad a0)), (1, .int l1), (2, .int l2), (5, .int l5), (6, .int l6)]) G.hx G.hb (dcs_get dec_X12_bestOrder_1 10 rfl) hl (by decide) rfl (fun ls hl => ?_)
  exact B_X12_bestOrder_103 a0 l1 l2 l5 l6 l5 σ G hm ok_a0 hf hb0 hr w (lv_sub hl [2, 3, 4, 1, 0, 5] rfl)
set_option maxRecDepth 100000 in
set_option maxHeartbeats 4000000 in
theorem B_X12_bestOrder_74 {H : Heap} {locs : List Loc} {ls : Array Slot} {r0 : Int32} {σ0 : hSt} {o : (Int32 × Int32 × Int32 × hSt) ⊕ (Int32 × hSt)} (a0 : Nat) (l1 : Int32) (l2 : Int32) (l3 : Int32) (l4 : Int32) (l5 : Int32) (l6 : Int32) (σ : hSt) (G : Gx p m c cX12_bestOrder 7 s args RX12 D ay NM ad (aN NM ad)) (hm : meth.sig.returnType = (some .int) ∧ meth.locks = false) (ok_a0 : okr kM NM 12 a0 = true) (hf : F_X12_bestOrder_74 a0 l1 l2 l3 l4 l5 l6 σ = some o) (hb0 : ∀ (v : Int32 × Int32 × Int32 × hSt), o = .inl v → ∀ (H : Heap) (locs : List Loc) (ls : Array Slot), Wd D ay kM NM ad (aN NM ad) s v.2.2.2 H locs → lv_has ls 7 [(0, .ref (ad a0)), (1, .int l1), (2, .int l2), (3, .int v.1), (4, .int v.2.1), (5, .int v.2.2.1)] → W p l e (rmK 6 147) s m args below meth c H locs 0 0 (MQ below (cI D ay kM NM ad r0 σ0) args s 0 0 (aN NM ad)) (F0 m 29 ls [])) (hr : ∀ x, o = .inr (x) → x = (r0, σ0)) (w : Wd D ay kM NM ad (aN NM ad) s σ H locs) (hl : lv_has ls 7 [(0, .ref (ad a0)), (1, .int l1), (2, .int l2), (3, .int l3), (4, .int l4), (5, .int l5), (6, .int l6)]) : W p l e (rmK 6 147) s m args below meth c H locs 0 0 (MQ below (cI D ay kM NM ad r0 σ0) args s 0 0 (aN NM ad)) (F0 m 74 ls []) := by
  have k_a0 := okr_in ok_a0
  unfold F_X12_bestOrder_74 at hf
  refine lv_iload G.hx G.hb (dcs_get dec_X12_bestOrder_0 38 rfl) (lv_at hl 6 rfl) ?_
  refine lv_sipush (v := (200 : Int32)) G.hx G.hb (dcs_get dec_X12_bestOrder_0 39 rfl) (by decide) ?_
  refine lv_icmp_gt (tgt := 103) G.hx G.hb (dcs_get dec_X12_bestOrder_1 0 rfl) (by decide) (fun hc => ?_) (fun hc => ?_)
  · rw [if_pos hc] at hf
    exact B_X12_bestOrder_103 a0 l1 l2 l3 l4 l5 σ G hm ok_a0 hf hb0 hr w (lv_sub hl [0, 1, 2, 3, 4, 5] rfl)
  · rw [if_neg hc] at hf
    refine lv_iload_n G.hx G.hb (dcs_get dec_X12_bestOrder_1 1 rfl) rfl (lv_at hl 3 rfl) ?_
    refine lv_if_lt (tgt := 96) G.hx G.hb (dcs_get dec_X12_bestOrder_1 2 rfl) (by decide) (fun hc => ?_) (fun hc => ?_)
    · rw [if_pos hc] at hf
      exact B_X12_bestOrder_96 a0 l1 l2 l5 l6 σ G hm ok_a0 hf hb0 hr w (lv_sub hl [0, 1, 2, 5, 6] rfl)
    · rw [if_neg hc] at hf
      refine lv_iload G.hx G.hb (dcs_get dec_X12_bestOrder_1 3 rfl) (lv_at hl 6 rfl) ?_
      refine lv_iload G.hx G.hb (dcs_get dec_X12_bestOrder_1 4 rfl) (lv_at hl 4 rfl) ?_
      refine lv_icmp_lt (tgt := 96) G.hx G.hb (dcs_get dec_X12_bestOrder_1 5 rfl) (by decide) (fun hc => ?_) (fun hc => ?_)
      · rw [if_pos hc] at hf
        exact B_X12_bestOrder_96 a0 l1 l2 l5 l6 σ G hm ok_a0 hf hb0 hr w (lv_sub hl [0, 1, 2, 5, 6] rfl)
      · rw [if_neg hc] at hf
        refine lv_goto (tgt := 103) G.hx G.hb (dcs_get dec_X12_bestOrder_1 6 rfl) (by decide) ?_
        exact B_X12_bestOrder_103 a0 l1 l2 l3 l4 l5 σ G hm ok_a0 hf hb0 hr w (lv_sub hl [0, 1, 2, 3, 4, 5] rfl)
set_option maxRecDepth 100000 in
set_option maxHeartbeats 4000000 in
theorem B_X12_bestOrder_48b {H : Heap} {locs : List Loc} {ls : Array Slot} {r0 : Int32} {σ0 : hSt} {o : (Int32 × hSt) ⊕ ((Int32 × Int32 × Int32 × hSt) ⊕ (Int32 × hSt))} (a0 : Nat) (l1 : Int32) (l2 : Int32) (l3 : Int32) (l4 : Int32) (l5 : Int32) (l6 : Int32) (σ : hSt) (G : Gx p m c cX12_bestOrder 7 s args RX12 D ay NM ad (aN NM ad)) (hm : meth.sig.returnType = (some .int) ∧ meth.locks = false) (ok_a0 : okr kM NM 12 a0 = true) (hf : F_X12_bestOrder_48b a0 l1 l2 l3 l4 l5 l6 σ = some o) (hb0 : ∀ (v : Int32 × Int32 × Int32 × hSt), o = .inr (.inl v) → ∀ (H : Heap) (locs : List Loc) (ls : Array Slot), Wd D ay kM NM ad (aN NM ad) s v.2.2.2 H locs → lv_has ls 7 [(0, .ref (ad a0)), (1, .int l1), (2, .int l2), (3, .int v.1), (4, .int v.2.1), (5, .int v.2.2.1)] → W p l e (rmK 6 147) s m args below meth c H locs 0 0 (MQ below (cI D ay kM NM ad r0 σ0) args s 0 0 (aN NM ad)) (F0 m 29 ls [])) (hb1 : ∀ (v : Int32 × hSt), o = .inl v → ∀ (H : Heap) (locs : List Loc) (ls : Array Slot), Wd D ay kM NM ad (aN NM ad) s v.2 H locs → lv_has ls 7 [(0, .ref (ad a0)), (1, .int l1), (2, .int l2), (3, .int l3), (4, .int l4), (5, .int l5), (6, .int v.1)] → W p l e (rmK 6 147) s m args below meth c H locs 0 0 (MQ below (cI D ay kM NM ad r0 σ0) args s 0 0 (aN NM ad)) (F0 m 48 ls [])) (hr : ∀ x, o = .inr (.inr (x)) → x = (r0, σ0)) (w : Wd D ay kM NM ad (aN NM ad) s σ H locs) (hl : lv_has ls 7 [(0, .ref (ad a0)), (1, .int l1), (2, .int l2), (3, .int l3), (4, .int l4), (5, .int l5), (6, .int l6)]) : W p l e (rmK 6 147) s m args below meth c H locs 0 0 (MQ below (cI D ay kM NM ad r0 σ0) args s 0 0 (aN NM ad)) (F0 m 48 ls []) := by
  have k_a0 := okr_in ok_a0
  unfold F_X12_bestOrder_48b at hf
  refine lv_iload G.hx G.hb (dcs_get dec_X12_bestOrder_0 27 rfl) (lv_at hl 6 rfl) ?_
  refine lv_sipush (v := (200 : Int32)) G.hx G.hb (dcs_get dec_X12_bestOrder_0 28 rfl) (by decide) ?_
  refine lv_icmp_gt (tgt := 74) G.hx G.hb (dcs_get dec_X12_bestOrder_0 29 rfl) (by decide) (fun hc => ?_) (fun hc => ?_)
  · rw [if_pos hc] at hf
    obtain ⟨x9, h9, e9⟩ := map_some_inv hf
    subst e9
    exact B_X12_bestOrder_74 a0 l1 l2 l3 l4 l5 l6 σ G hm ok_a0 h9 (fun v e => hb0 v (by rw [e])) (fun x e => hr x (by rw [e])) w (lv_sub hl [0, 1, 2, 3, 4, 5, 6] rfl)
  · rw [if_neg hc] at hf
    refine lv_aload_n G.hx G.hb (dcs_get dec_X12_bestOrder_0 30 rfl) rfl (lv_at hl 0 rfl) ?_
    refine lv_iload_n G.hx G.hb (dcs_get dec_X12_bestOrder_0 31 rfl) rfl (lv_at hl 1 rfl) ?_
    obtain ⟨v3, h2, hf⟩ := cB_some hf
    refine a_i (k_V (As := [.int l1]) (rest := []) cls12 lb_X12_allKnow lv_X12_allKnow q_1468 (C_X12_allKnow G.2.2.1 a0 l1 σ h2 ok_a0) ⟨(Nat.le_of_ble_eq_true rfl), (Nat.le_of_ble_eq_true rfl)⟩ G w k_a0.1 k_a0.2 rfl rfl hl.1 (Nat.le_of_ble_eq_true rfl) (dcs_get dec_X12_bestOrder_0 32 rfl) ⟨Nat.le_refl _, Nat.le_refl _⟩) G w (fun H locs w => ?_)
    refine lv_if_ne (tgt := 74) G.hx G.hb (dcs_get dec_X12_bestOrder_0 33 rfl) (by decide) (fun hc => ?_) (fun hc => ?_)
    · rw [if_neg hc] at hf
      obtain ⟨x9, h9, e9⟩ := map_some_inv hf
      subst e9
      exact B_X12_bestOrder_74 a0 l1 l2 l3 l4 l5 l6 σ G hm ok_a0 h9 (fun v e => hb0 v (by rw [e])) (fun x e => hr x (by rw [e])) w (lv_sub hl [0, 1, 2, 3, 4, 5, 6] rfl)
    · rw [if_pos hc] at hf
      refine lv_aload_n G.hx G.hb (dcs_get dec_X12_bestOrder_0 34 rfl) rfl (lv_at hl 0 rfl) ?_
      obtain ⟨σ5, h4, hf⟩ := cB_some hf
      refine a_v (k_V (As := []) (rest := []) cls12 lb_X12_dayByRule lv_X12_dayByRule q_1436 (C_X12_dayByRule G.2.2.1 a0 σ h4 ok_a0) ⟨(Nat.le_of_ble_eq_true rfl), (Nat.le_of_ble_eq_true rfl)⟩ G w k_a0.1 k_a0.2 rfl rfl hl.1 (Nat.le_of_ble_eq_true rfl) (dcs_get dec_X12_bestOrder_0 35 rfl) ⟨Nat.le_refl _, Nat.le_refl _⟩) G w (fun H locs w => ?_)
      obtain ⟨v6, e_v6, hf⟩ := cL_some hf
      refine lv_iinc (v := v6) (lv' := [(6, .int v6), (0, .ref (ad a0)), (1, .int l1), (2, .int l2), (3, .int l3), (4, .int l4), (5, .int l5)]) G.hx G.hb (dcs_get dec_X12_bestOrder_0 36 rfl) hl (k := 6) rfl (by rw [e_v6]; rfl) (by decide) rfl (fun ls hl => ?_)
      refine lv_goto (tgt := 48) G.hx G.hb (dcs_get dec_X12_bestOrder_0 37 rfl) (by decide) ?_
      exact hb1 _ (Option.some.inj hf).symm _ _ _ w (lv_sub hl [1, 2, 3, 4, 5, 6, 0] rfl)
set_option maxRecDepth 100000 in
set_option maxHeartbeats 4000000 in
theorem H_X12_bestOrder_48 {r0 : Int32} {σ0 : hSt} {o : (Int32 × Int32 × Int32 × hSt) ⊕ (Int32 × hSt)} (a0 : Nat) (l1 : Int32) (l2 : Int32) (l3 : Int32) (l4 : Int32) (l5 : Int32) (G : Gx p m c cX12_bestOrder 7 s args RX12 D ay NM ad (aN NM ad)) (hm : meth.sig.returnType = (some .int) ∧ meth.locks = false) (ok_a0 : okr kM NM 12 a0 = true) (hb0 : ∀ (v : Int32 × Int32 × Int32 × hSt), o = .inl v → ∀ (H : Heap) (locs : List Loc) (ls : Array Slot), Wd D ay kM NM ad (aN NM ad) s v.2.2.2 H locs → lv_has ls 7 [(0, .ref (ad a0)), (1, .int l1), (2, .int l2), (3, .int v.1), (4, .int v.2.1), (5, .int v.2.2.1)] → W p l e (rmK 6 147) s m args below meth c H locs 0 0 (MQ below (cI D ay kM NM ad r0 σ0) args s 0 0 (aN NM ad)) (F0 m 29 ls [])) (hr : ∀ x, o = .inr (x) → x = (r0, σ0)) : ∀ (k : Nat) (v : Int32 × hSt), lp (S_X12_bestOrder_48 a0 l1 l2 l3 l4 l5) k v = some o → ∀ (H : Heap) (locs : List Loc) (ls : Array Slot), Wd D ay kM NM ad (aN NM ad) s v.2 H locs → lv_has ls 7 [(0, .ref (ad a0)), (1, .int l1), (2, .int l2), (3, .int l3), (4, .int l4), (5, .int l5), (6, .int v.1)] → W p l e (rmK 6 147) s m args below meth c H locs 0 0 (MQ below (cI D ay kM NM ad r0 σ0) args s 0 0 (aN NM ad)) (F0 m 48 ls []) := by
  intro k
  induction k with
  | zero => intro v hf; cases hf
  | succ k ih =>
    intro v hf H locs ls w hl
    obtain ⟨o1, h1, h2, h3⟩ := lp_some hf
    exact B_X12_bestOrder_48b a0 l1 l2 l3 l4 l5 v.1 v.2 G hm ok_a0 h1 (fun v' e => hb0 v' (h3 _ e).symm) (fun v' e => ih v' (h2 v' e)) (fun x e => hr x (h3 _ e).symm) w hl
set_option maxRecDepth 100000 in
set_option maxHeartbeats 4000000 in
theorem B_X12_bestOrder_48 {H : Heap} {locs : List Loc} {ls : Array Slot} {r0 : Int32} {σ0 : hSt} {o : (Int32 × Int32 × Int32 × hSt) ⊕ (Int32 × hSt)} (a0 : Nat) (l1 : Int32) (l2 : Int32) (l3 : Int32) (l4 : Int32) (l5 : Int32) (l6 : Int32) (σ : hSt) (G : Gx p m c cX12_bestOrder 7 s args RX12 D ay NM ad (aN NM ad)) (hm : meth.sig.returnType = (some .int) ∧ meth.locks = false) (ok_a0 : okr kM NM 12 a0 = true) (hf : F_X12_bestOrder_48 a0 l1 l2 l3 l4 l5 l6 σ = some o) (hb0 : ∀ (v : Int32 × Int32 × Int32 × hSt), o = .inl v → ∀ (H : Heap) (locs : List Loc) (ls : Array Slot), Wd D ay kM NM ad (aN NM ad) s v.2.2.2 H locs → lv_has ls 7 [(0, .ref (ad a0)), (1, .int l1), (2, .int l2), (3, .int v.1), (4, .int v.2.1), (5, .int v.2.2.1)] → W p l e (rmK 6 147) s m args below meth c H locs 0 0 (MQ below (cI D ay kM NM ad r0 σ0) args s 0 0 (aN NM ad)) (F0 m 29 ls [])) (hr : ∀ x, o = .inr (x) → x = (r0, σ0)) (w : Wd D ay kM NM ad (aN NM ad) s σ H locs) (hl : lv_has ls 7 [(0, .ref (ad a0)), (1, .int l1), (2, .int l2), (3, .int l3), (4, .int l4), (5, .int l5), (6, .int l6)]) : W p l e (rmK 6 147) s m args below meth c H locs 0 0 (MQ below (cI D ay kM NM ad r0 σ0) args s 0 0 (aN NM ad)) (F0 m 48 ls []) := by
  unfold F_X12_bestOrder_48 at hf
  exact H_X12_bestOrder_48 a0 l1 l2 l3 l4 l5  G hm ok_a0 hb0 hr fuel (l6, σ) hf _ _ _ w hl
set_option maxRecDepth 100000 in
set_option maxHeartbeats 4000000 in
theorem B_X12_bestOrder_119 {H : Heap} {locs : List Loc} {ls : Array Slot} {r0 : Int32} {σ0 : hSt} (s0 : Int32) (σ : hSt) (G : Gx p m c cX12_bestOrder 7 s args RX12 D ay NM ad (aN NM ad)) (hm : meth.sig.returnType = (some .int) ∧ meth.locks = false)  (hf : F_X12_bestOrder_119 s0 σ = some (r0, σ0))  (w : Wd D ay kM NM ad (aN NM ad) s σ H locs) (hl : lv_has ls 7 []) : W p l e (rmK 6 147) s m args below meth c H locs 0 0 (MQ below (cI D ay kM NM ad r0 σ0) args s 0 0 (aN NM ad)) (F0 m 119 ls [.int s0]) := by
  unfold F_X12_bestOrder_119 at hf
  have e9 := Option.some.inj hf
  exact r_iret G w hm (congrArg Prod.fst e9) (congrArg Prod.snd e9) (dcs_get dec_X12_bestOrder_1 18 rfl)
set_option maxRecDepth 100000 in
set_option maxHeartbeats 4000000 in
theorem B_X12_bestOrder_29b {H : Heap} {locs : List Loc} {ls : Array Slot} {r0 : Int32} {σ0 : hSt} {o : (Int32 × Int32 × Int32 × hSt) ⊕ (Int32 × hSt)} (a0 : Nat) (l1 : Int32) (l2 : Int32) (l3 : Int32) (l4 : Int32) (l5 : Int32) (σ : hSt) (G : Gx p m c cX12_bestOrder 7 s args RX12 D ay NM ad (aN NM ad)) (hm : meth.sig.returnType = (some .int) ∧ meth.locks = false) (ok_a0 : okr kM NM 12 a0 = true) (hf : F_X12_bestOrder_29b a0 l1 l2 l3 l4 l5 σ = some o) (hb0 : ∀ (v : Int32 × Int32 × Int32 × hSt), o = .inl v → ∀ (H : Heap) (locs : List Loc) (ls : Array Slot), Wd D ay kM NM ad (aN NM ad) s v.2.2.2 H locs → lv_has ls 7 [(0, .ref (ad a0)), (1, .int l1), (2, .int l2), (3, .int v.1), (4, .int v.2.1), (5, .int v.2.2.1)] → W p l e (rmK 6 147) s m args below meth c H locs 0 0 (MQ below (cI D ay kM NM ad r0 σ0) args s 0 0 (aN NM ad)) (F0 m 29 ls [])) (hr : ∀ x, o = .inr (x) → x = (r0, σ0)) (w : Wd D ay kM NM ad (aN NM ad) s σ H locs) (hl : lv_has ls 7 [(0, .ref (ad a0)), (1, .int l1), (2, .int l2), (3, .int l3), (4, .int l4), (5, .int l5)]) : W p l e (rmK 6 147) s m args below meth c H locs 0 0 (MQ below (cI D ay kM NM ad r0 σ0) args s 0 0 (aN NM ad)) (F0 m 29 ls []) := by
  have k_a0 := okr_in ok_a0
  unfold F_X12_bestOrder_29b at hf
  refine lv_iload G.hx G.hb (dcs_get dec_X12_bestOrder_0 17 rfl) (lv_at hl 5 rfl) ?_
  refine lv_iconst (v := (4 : Int32)) G.hx G.hb (dcs_get dec_X12_bestOrder_0 18 rfl) (by decide) ?_
  refine lv_icmp_ge (tgt := 109) G.hx G.hb (dcs_get dec_X12_bestOrder_0 19 rfl) (by decide) (fun hc => ?_) (fun hc => ?_)
  · rw [if_pos hc] at hf
    refine lv_iload_n G.hx G.hb (dcs_get dec_X12_bestOrder_1 13 rfl) rfl (lv_at hl 2 rfl) ?_
    refine lv_if_ne (tgt := 117) G.hx G.hb (dcs_get dec_X12_bestOrder_1 14 rfl) (by decide) (fun hc => ?_) (fun hc => ?_)
    · rw [if_neg hc] at hf
      refine lv_iload G.hx G.hb (dcs_get dec_X12_bestOrder_1 17 rfl) (lv_at hl 4 rfl) ?_
      obtain ⟨x9, h9, e9⟩ := map_some_inv hf
      subst e9
      have e8 := hr _ rfl
      rw [e8] at h9
      exact B_X12_bestOrder_119 l4 σ G hm  h9 w (lv_sub hl [] rfl)
    · rw [if_pos hc] at hf
      refine lv_iload_n G.hx G.hb (dcs_get dec_X12_bestOrder_1 15 rfl) rfl (lv_at hl 3 rfl) ?_
      refine lv_goto (tgt := 119) G.hx G.hb (dcs_get dec_X12_bestOrder_1 16 rfl) (by decide) ?_
      obtain ⟨x9, h9, e9⟩ := map_some_inv hf
      subst e9
      have e8 := hr _ rfl
      rw [e8] at h9
      exact B_X12_bestOrder_119 l3 σ G hm  h9 w (lv_sub hl [] rfl)
  · rw [if_neg hc] at hf
    refine lv_aload_n G.hx G.hb (dcs_get dec_X12_bestOrder_0 20 rfl) rfl (lv_at hl 0 rfl) ?_
    obtain ⟨σ8, h7, hf⟩ := cB_some hf
    refine a_v (k_V (As := []) (rest := []) cls12 lb_X12_copies lv_X12_copies q_1388 (C_X12_copies G.2.2.1 a0 σ h7 ok_a0) ⟨(Nat.le_of_ble_eq_true rfl), (Nat.le_of_ble_eq_true rfl)⟩ G w k_a0.1 k_a0.2 rfl rfl hl.1 (Nat.le_of_ble_eq_true rfl) (dcs_get dec_X12_bestOrder_0 21 rfl) ⟨Nat.le_refl _, Nat.le_refl _⟩) G w (fun H locs w => ?_)
    refine lv_aload_n G.hx G.hb (dcs_get dec_X12_bestOrder_0 22 rfl) rfl (lv_at hl 0 rfl) ?_
    refine lv_iload G.hx G.hb (dcs_get dec_X12_bestOrder_0 23 rfl) (lv_at hl 5 rfl) ?_
    obtain ⟨σ9, e_σ9, hf⟩ := cL_some hf
    refine r_puti (k := 55) cls12 ct12 fi_12_55.1 fi_12_55.2 fp_12_55.1 fp_12_55.2 q_1063 rfl rfl G w k_a0.1 k_a0.2 (dcs_get dec_X12_bestOrder_0 24 rfl) (fun H locs w => ?_)
    have w := Wd.nm e_σ9 w
    refine lv_iconst (v := (0 : Int32)) G.hx G.hb (dcs_get dec_X12_bestOrder_0 25 rfl) (by decide) ?_
    refine lv_istore (lv' := [(6, .int (0 : Int32)), (0, .ref (ad a0)), (1, .int l1), (2, .int l2), (3, .int l3), (4, .int l4), (5, .int l5)]) G.hx G.hb (dcs_get dec_X12_bestOrder_0 26 rfl) hl (by decide) rfl (fun ls hl => ?_)
    exact B_X12_bestOrder_48 a0 l1 l2 l3 l4 l5 (0 : Int32) σ9 G hm ok_a0 hf hb0 hr w (lv_sub hl [1, 2, 3, 4, 5, 6, 0] rfl)
set_option maxRecDepth 100000 in
set_option maxHeartbeats 4000000 in
theorem H_X12_bestOrder_29 {r0 : Int32} {σ0 : hSt} (a0 : Nat) (l1 : Int32) (l2 : Int32) (G : Gx p m c cX12_bestOrder 7 s args RX12 D ay NM ad (aN NM ad)) (hm : meth.sig.returnType = (some .int) ∧ meth.locks = false) (ok_a0 : okr kM NM 12 a0 = true)  : ∀ (k : Nat) (v : Int32 × Int32 × Int32 × hSt), lp (S_X12_bestOrder_29 a0 l1 l2) k v = some (r0, σ0) → ∀ (H : Heap) (locs : List Loc) (ls : Array Slot), Wd D ay kM NM ad (aN NM ad) s v.2.2.2 H locs → lv_has ls 7 [(0, .ref (ad a0)), (1, .int l1), (2, .int l2), (3, .int v.1), (4, .int v.2.1), (5, .int v.2.2.1)] → W p l e (rmK 6 147) s m args below meth c H locs 0 0 (MQ below (cI D ay kM NM ad r0 σ0) args s 0 0 (aN NM ad)) (F0 m 29 ls []) := by
  intro k
  induction k with
  | zero => intro v hf; cases hf
  | succ k ih =>
    intro v hf H locs ls w hl
    obtain ⟨o1, h1, h2, h3⟩ := lp_some hf
    exact B_X12_bestOrder_29b a0 l1 l2 v.1 v.2.1 v.2.2.1 v.2.2.2 G hm ok_a0 h1  (fun v' e => ih v' (h2 v' e)) (fun x e => h3 x e) w hl
set_option maxRecDepth 100000 in
set_option maxHeartbeats 4000000 in
theorem B_X12_bestOrder_29 {H : Heap} {locs : List Loc} {ls : Array Slot} {r0 : Int32} {σ0 : hSt} (a0 : Nat) (l1 : Int32) (l2 : Int32) (l3 : Int32) (l4 : Int32) (l5 : Int32) (σ : hSt) (G : Gx p m c cX12_bestOrder 7 s args RX12 D ay NM ad (aN NM ad)) (hm : meth.sig.returnType = (some .int) ∧ meth.locks = false) (ok_a0 : okr kM NM 12 a0 = true) (hf : F_X12_bestOrder_29 a0 l1 l2 l3 l4 l5 σ = some (r0, σ0))  (w : Wd D ay kM NM ad (aN NM ad) s σ H locs) (hl : lv_has ls 7 [(0, .ref (ad a0)), (1, .int l1), (2, .int l2), (3, .int l3), (4, .int l4), (5, .int l5)]) : W p l e (rmK 6 147) s m args below meth c H locs 0 0 (MQ below (cI D ay kM NM ad r0 σ0) args s 0 0 (aN NM ad)) (F0 m 29 ls []) := by
  unfold F_X12_bestOrder_29 at hf
  exact H_X12_bestOrder_29 a0 l1 l2  G hm ok_a0  fuel (l3, l4, l5, σ) hf _ _ _ w hl
set_option maxRecDepth 100000 in
set_option maxHeartbeats 4000000 in
theorem B_X12_bestOrder_0 {H : Heap} {locs : List Loc} {ls : Array Slot} {r0 : Int32} {σ0 : hSt} (a0 : Nat) (l1 : Int32) (l2 : Int32) (σ : hSt) (G : Gx p m c cX12_bestOrder 7 s args RX12 D ay NM ad (aN NM ad)) (hm : meth.sig.returnType = (some .int) ∧ meth.locks = false) (ok_a0 : okr kM NM 12 a0 = true) (hf : F_X12_bestOrder a0 l1 l2 σ = some (r0, σ0))  (w : Wd D ay kM NM ad (aN NM ad) s σ H locs) (hl : lv_has ls 7 [(0, .ref (ad a0)), (1, .int l1), (2, .int l2)]) : W p l e (rmK 6 147) s m args below meth c H locs 0 0 (MQ below (cI D ay kM NM ad r0 σ0) args s 0 0 (aN NM ad)) (F0 m 0 ls []) := by
  have k_a0 := okr_in ok_a0
  unfold F_X12_bestOrder at hf
  refine lv_aload_n G.hx G.hb (dcs_get dec_X12_bestOrder_0 0 rfl) rfl (lv_at hl 0 rfl) ?_
  refine lv_iload_n G.hx G.hb (dcs_get dec_X12_bestOrder_0 1 rfl) rfl (lv_at hl 1 rfl) ?_
  obtain ⟨v11, h10, hf⟩ := cB_some hf
  refine a_i (k_V (As := [.int l1]) (rest := []) cls12 lb_X12_isNews lv_X12_isNews q_1376 (C_X12_isNews G.2.2.1 a0 l1 σ h10 ok_a0) ⟨(Nat.le_of_ble_eq_true rfl), (Nat.le_of_ble_eq_true rfl)⟩ G w k_a0.1 k_a0.2 rfl rfl hl.1 (Nat.le_of_ble_eq_true rfl) (dcs_get dec_X12_bestOrder_0 2 rfl) ⟨Nat.le_refl _, Nat.le_refl _⟩) G w (fun H locs w => ?_)
  refine lv_if_eq (tgt := 17) G.hx G.hb (dcs_get dec_X12_bestOrder_0 3 rfl) (by decide) (fun hc => ?_) (fun hc => ?_)
  · rw [if_pos hc] at hf
    exact B_X12_bestOrder_17  σ G hm  hf  w (lv_sub hl [] rfl)
  · rw [if_neg hc] at hf
    refine lv_iload_n G.hx G.hb (dcs_get dec_X12_bestOrder_0 4 rfl) rfl (lv_at hl 2 rfl) ?_
    refine lv_iconst (v := (0 : Int32)) G.hx G.hb (dcs_get dec_X12_bestOrder_0 5 rfl) (by decide) ?_
    refine lv_iconst (v := (1 : Int32)) G.hx G.hb (dcs_get dec_X12_bestOrder_0 6 rfl) (by decide) ?_
    obtain ⟨v13, h12, hf⟩ := cB_some hf
    refine a_i (k_S (As := [.int l2, .int (0 : Int32), .int (1 : Int32)]) (rest := []) lb_X12_in q_1351 q_1350 (C_X12_in G.2.2.1 l2 (0 : Int32) (1 : Int32) σ h12 ) ⟨(Nat.le_of_ble_eq_true rfl), (Nat.le_of_ble_eq_true rfl)⟩ G w rfl rfl hl.1 (Nat.le_of_ble_eq_true rfl) (dcs_get dec_X12_bestOrder_0 7 rfl) ⟨Nat.le_refl _, Nat.le_refl _⟩) G w (fun H locs w => ?_)
    refine lv_if_ne (tgt := 19) G.hx G.hb (dcs_get dec_X12_bestOrder_0 8 rfl) (by decide) (fun hc => ?_) (fun hc => ?_)
    · rw [if_neg hc] at hf
      refine lv_bipush (v := (-2 : Int32)) G.hx G.hb (dcs_get dec_X12_bestOrder_0 11 rfl) (by decide) ?_
      refine lv_istore_n (lv' := [(3, .int (-2 : Int32)), (0, .ref (ad a0)), (1, .int l1), (2, .int l2)]) G.hx G.hb (dcs_get dec_X12_bestOrder_0 12 rfl) rfl hl (by decide) rfl (fun ls hl => ?_)
      refine lv_bipush (v := (-2 : Int32)) G.hx G.hb (dcs_get dec_X12_bestOrder_0 13 rfl) (by decide) ?_
      refine lv_istore (lv' := [(4, .int (-2 : Int32)), (3, .int (-2 : Int32)), (0, .ref (ad a0)), (1, .int l1), (2, .int l2)]) G.hx G.hb (dcs_get dec_X12_bestOrder_0 14 rfl) hl (by decide) rfl (fun ls hl => ?_)
      refine lv_iconst (v := (0 : Int32)) G.hx G.hb (dcs_get dec_X12_bestOrder_0 15 rfl) (by decide) ?_
      refine lv_istore (lv' := [(5, .int (0 : Int32)), (4, .int (-2 : Int32)), (3, .int (-2 : Int32)), (0, .ref (ad a0)), (1, .int l1), (2, .int l2)]) G.hx G.hb (dcs_get dec_X12_bestOrder_0 16 rfl) hl (by decide) rfl (fun ls hl => ?_)
      exact B_X12_bestOrder_29 a0 l1 l2 (-2 : Int32) (-2 : Int32) (0 : Int32) σ G hm ok_a0 hf  w (lv_sub hl [3, 4, 5, 2, 1, 0] rfl)
    · rw [if_pos hc] at hf
      exact B_X12_bestOrder_17  σ G hm  hf  w (lv_sub hl [] rfl)
end
set_option maxRecDepth 100000 in
set_option maxHeartbeats 4000000 in
theorem C_X12_bestOrder {l : Launch} {D : va_G} {ay : Nat → ClassId} {ad : Nat → Nat} (hi : hInj NM ad) (a0 : Nat) (l1 : Int32) (l2 : Int32) (σ : hSt) {r0 : Int32} {σ0 : hSt} (hf : F_X12_bestOrder a0 l1 l2 σ = some (r0, σ0)) (ok_a0 : okr kM NM 12 a0 = true) : hM l D ay kM NM ad yX12_bestOrder cX12_bestOrder 7 ((some .int)) (rmK 6 147) [.ref (ad a0), .int l1, .int l2] σ (cI D ay kM NM ad r0 σ0) := by
  refine hM_in (by decide) hi (Nat.le_of_ble_eq_true rfl) ?_
  intro p e s m below meth c G hm w ls hl
  exact B_X12_bestOrder_0 a0 l1 l2 σ G hm ok_a0 hf w (lv_sub hl [0, 1, 2] rfl)

/-! HillDrumsModel.quiet(III)I -/
def DL_X12_quiet_0 : List (Nat × Instr × Nat) := [(0, .aload_n 0, 1), (1, .iload_n 1, 1), (2, .invokevirtual 377, 3), (5, .ifCond .eq 20, 3), (8, .aload_n 0, 1), (9, .iload_n 2, 1), (10, .invokevirtual 342, 3), (13, .ifCond .eq 12, 3), (16, .iload_n 3, 1), (17, .iconst 0, 1), (18, .iconst 1, 1), (19, .invokestatic 323, 3), (22, .ifCond .ne 5, 3), (25, .iconst (-1), 1), (26, .ireturn, 1), (27, .aload_n 0, 1), (28, .invokevirtual 380, 3), (31, .aload_n 0, 1), (32, .iload_n 2, 1), (33, .iload_n 1, 1), (34, .invokevirtual 354, 3), (37, .ifCond .eq 5, 3), (40, .iconst (-1), 1), (41, .ireturn, 1), (42, .bipush (-2), 2), (44, .istore 4, 2), (46, .aload_n 0, 1), (47, .iload_n 1, 1), (48, .iload_n 2, 1), (49, .invokevirtual 393, 3), (52, .istore 5, 2), (54, .iconst 0, 1), (55, .istore 6, 2), (57, .iload 6, 2), (59, .aload_n 0, 1), (60, .getfield 49, 3), (63, .aload_n 0, 1), (64, .getfield 236, 3), (67, .iaload, 1), (68, .if_icmp .ge 55, 3)]
set_option maxRecDepth 100000 in
theorem dec_X12_quiet_0 : dcs cX12_quiet DL_X12_quiet_0 = true := by decide +kernel
def DL_X12_quiet_1 : List (Nat × Instr × Nat) := [(71, .aload_n 0, 1), (72, .invokevirtual 380, 3), (75, .aload_n 0, 1), (76, .iload 6, 2), (78, .putfield 351, 3), (81, .aload_n 0, 1), (82, .iload_n 1, 1), (83, .iload_n 2, 1), (84, .invokevirtual 393, 3), (87, .istore 7, 2), (89, .iload 7, 2), (91, .ifCond .lt 26, 3), (94, .iload 5, 2), (96, .ifCond .lt 13, 3), (99, .iload 7, 2), (101, .iload 5, 2), (103, .if_icmp .lt 6, 3), (106, .goto 11, 3), (109, .iload 6, 2), (111, .istore 4, 2), (113, .iload 7, 2), (115, .istore 5, 2), (117, .iinc 6 1, 3), (120, .goto (-63), 3), (123, .iload_n 3, 1), (124, .ifCond .ne 8, 3), (127, .iload 4, 2), (129, .goto 5, 3), (132, .iload 5, 2), (134, .ireturn, 1)]
set_option maxRecDepth 100000 in
theorem dec_X12_quiet_1 : dcs cX12_quiet DL_X12_quiet_1 = true := by decide +kernel
theorem lb_X12_quiet : lkB yX12_quiet cX12_quiet 8 ((some .int)) 3 := ⟨q_1475, q_14, ⟨by decide, by decide⟩, by decide +kernel⟩
theorem lv_X12_quiet : lkV yX12_quiet := ⟨q_1473, q_1474⟩
def F_X12_quiet_25  (σ : hSt) : Option (Int32 × hSt) :=
some (((-1 : Int32), σ))
def F_X12_quiet_117 (a0 : Nat) (l1 : Int32) (l2 : Int32) (l3 : Int32) (l4 : Int32) (l5 : Int32) (l6 : Int32) (σ : hSt) : Option ((Int32 × Int32 × Int32 × hSt) ⊕ (Int32 × hSt)) :=
cL (l6 + (1 : Int32)) fun v1 =>
some (.inl (l4, l5, v1, σ))
def F_X12_quiet_109 (a0 : Nat) (l1 : Int32) (l2 : Int32) (l3 : Int32) (l6 : Int32) (l7 : Int32) (σ : hSt) : Option ((Int32 × Int32 × Int32 × hSt) ⊕ (Int32 × hSt)) :=
F_X12_quiet_117 a0 l1 l2 l3 l6 l7 l6 σ
def F_X12_quiet_134 (s0 : Int32) (σ : hSt) : Option (Int32 × hSt) :=
some ((s0, σ))
def F_X12_quiet_57b (a0 : Nat) (l1 : Int32) (l2 : Int32) (l3 : Int32) (l4 : Int32) (l5 : Int32) (l6 : Int32) (σ : hSt) : Option ((Int32 × Int32 × Int32 × hSt) ⊕ (Int32 × hSt)) :=
cR (σ.2.2 a0 24) (okr kM NM 101) fun z2 =>
cG (inb (σ.1 a0 18) (kM z2).2) <|
if (σ.1 z2 (σ.1 a0 18).toNatClampNeg) ≤ l6 then (
if l3 = 0 then (
(F_X12_quiet_134 l4 σ).map (fun x => .inr (x))) else (
(F_X12_quiet_134 l5 σ).map (fun x => .inr (x)))) else (
(F_X12_copies a0 σ).bind fun σ5 =>
cL (uI σ5 a0 56 l6) fun σ6 =>
cC (F_X12_knownBy a0 l1 l2 σ6) fun v8 σ9 =>
if v8 < 0 then (
F_X12_quiet_117 a0 l1 l2 l3 l4 l5 l6 σ9) else (
if l5 < 0 then (
F_X12_quiet_109 a0 l1 l2 l3 l6 v8 σ9) else (
if v8 < l5 then (
F_X12_quiet_109 a0 l1 l2 l3 l6 v8 σ9) else (
F_X12_quiet_117 a0 l1 l2 l3 l4 l5 l6 σ9))))
def S_X12_quiet_57 (a0 : Nat) (l1 : Int32) (l2 : Int32) (l3 : Int32) (v : Int32 × Int32 × Int32 × hSt) : Option ((Int32 × Int32 × Int32 × hSt) ⊕ (Int32 × hSt)) := F_X12_quiet_57b a0 l1 l2 l3 v.1 v.2.1 v.2.2.1 v.2.2.2
def F_X12_quiet_57 (a0 : Nat) (l1 : Int32) (l2 : Int32) (l3 : Int32) (l4 : Int32) (l5 : Int32) (l6 : Int32) (σ : hSt) : Option (Int32 × hSt) := lp (S_X12_quiet_57 a0 l1 l2 l3) fuel (l4, l5, l6, σ)
def F_X12_quiet (a0 : Nat) (l1 : Int32) (l2 : Int32) (l3 : Int32) (σ : hSt) : Option (Int32 × hSt) :=
(F_X12_isNews a0 l1 σ).bind fun v11 =>
if v11 = 0 then (
F_X12_quiet_25  σ) else (
(F_X12_isHill a0 l2 σ).bind fun v13 =>
if v13 = 0 then (
F_X12_quiet_25  σ) else (
(F_X12_in l3 (0 : Int32) (1 : Int32) σ).bind fun v15 =>
if v15 = 0 then (
F_X12_quiet_25  σ) else (
(F_X12_copies a0 σ).bind fun σ17 =>
(F_X12_knows a0 l2 l1 σ17).bind fun v19 =>
if v19 = 0 then (
cC (F_X12_knownBy a0 l1 l2 σ17) fun v21 σ22 =>
F_X12_quiet_57 a0 l1 l2 l3 (-2 : Int32) v21 (0 : Int32) σ22) else (
some (((-1 : Int32), σ17))))))
section
variable {p : Program} {l : Launch} {e : Env} {s : State} {m : MethodId} {args : Array Value} {below : List Frame} {meth : Method} {c : Code} {D : va_G} {ay : Nat → ClassId} {ad : Nat → Nat}
set_option maxRecDepth 100000 in
set_option maxHeartbeats 4000000 in
theorem B_X12_quiet_25 {H : Heap} {locs : List Loc} {ls : Array Slot} {r0 : Int32} {σ0 : hSt}  (σ : hSt) (G : Gx p m c cX12_quiet 8 s args RX12 D ay NM ad (aN NM ad)) (hm : meth.sig.returnType = (some .int) ∧ meth.locks = false)  (hf : F_X12_quiet_25  σ = some (r0, σ0))  (w : Wd D ay kM NM ad (aN NM ad) s σ H locs) (hl : lv_has ls 8 []) : W p l e (rmK 7 170) s m args below meth c H locs 0 0 (MQ below (cI D ay kM NM ad r0 σ0) args s 0 0 (aN NM ad)) (F0 m 25 ls []) := by
  unfold F_X12_quiet_25 at hf
  refine lv_iconst (v := (-1 : Int32)) G.hx G.hb (dcs_get dec_X12_quiet_0 13 rfl) (by decide) ?_
  have e9 := Option.some.inj hf
  exact r_iret G w hm (congrArg Prod.fst e9) (congrArg Prod.snd e9) (dcs_get dec_X12_quiet_0 14 rfl)
set_option maxRecDepth 100000 in
set_option maxHeartbeats 4000000 in
theorem B_X12_quiet_117 {H : Heap} {locs : List Loc} {ls : Array Slot} {r0 : Int32} {σ0 : hSt} {o : (Int32 × Int32 × Int32 × hSt) ⊕ (Int32 × hSt)} (a0 : Nat) (l1 : Int32) (l2 : Int32) (l3 : Int32) (l4 : Int32) (l5 : Int32) (l6 : Int32) (σ : hSt) (G : Gx p m c cX12_quiet 8 s args RX12 D ay NM ad (aN NM ad)) (hm : meth.sig.returnType = (some .int) ∧ meth.locks = false) (ok_a0 : okr kM NM 12 a0 = true) (hf : F_X12_quiet_117 a0 l1 l2 l3 l4 l5 l6 σ = some o) (hb0 : ∀ (v : Int32 × Int32 × Int32 × hSt), o = .inl v → ∀ (H : Heap) (locs : List Loc) (ls : Array Slot), Wd D ay kM NM ad (aN NM ad) s v.2.2.2 H locs → lv_has ls 8 [(0, .ref (ad a0)), (1, .int l1), (2, .int l2), (3, .int l3), (4, .int v.1), (5, .int v.2.1), (6, .int v.2.2.1)] → W p l e (rmK 7 170) s m args below meth c H locs 0 0 (MQ below (cI D ay kM NM ad r0 σ0) args s 0 0 (aN NM ad)) (F0 m 57 ls [])) (hr : ∀ x, o = .inr (x) → x = (r0, σ0)) (w : Wd D ay kM NM ad (aN NM ad) s σ H locs) (hl : lv_has ls 8 [(0, .ref (ad a0)), (1, .int l1), (2, .int l2), (3, .int l3), (4, .int l4), (5, .int l5), (6, .int l6)]) : W p l e (rmK 7 170) s m args below meth c H locs 0 0 (MQ below (cI D ay kM NM ad r0 σ0) args s 0 0 (aN NM ad)) (F0 m 117 ls []) := by
  have k_a0 := okr_in ok_a0
  unfold F_X12_quiet_117 at hf
  obtain ⟨v1, e_v1, hf⟩ := cL_some hf
  refine lv_iinc (v := v1) (lv' := [(6, .int v1), (0, .ref (ad a0)), (1, .int l1), (2, .int l2), (3, .int l3), (4, .int l4), (5, .int l5)]) G.hx G.hb (dcs_get dec_X12_quiet_1 22 rfl) hl (k := 6) rfl (by rw [e_v1]; rfl) (by decide) rfl (fun ls hl => ?_)
  refine lv_goto (tgt := 57) G.hx G.hb (dcs_get dec_X12_quiet_1 23 rfl) (by decide) ?_
  exact hb0 _ (Option.some.inj hf).symm _ _ _ w (lv_sub hl [1, 2, 3, 4, 5, 6, 0] rfl)
set_option maxRecDepth 100000 in
set_option maxHeartbeats 4000000 in
theorem B_X12_quiet_109 {H : Heap} {locs : List Loc} {ls : Array Slot} {r0 : Int32} {σ0 : hSt} {o : (Int32 × Int32 × Int32 × hSt) ⊕ (Int32 × hSt)} (a0 : Nat) (l1 : Int32) (l2 : Int32) (l3 : Int32) (l6 : Int32) (l7 : Int32) (σ : hSt) (G : Gx p m c cX12_quiet 8 s args RX12 D ay NM ad (aN NM ad)) (hm : meth.sig.returnType = (some .int) ∧ meth.locks = false) (ok_a0 : okr kM NM 12 a0 = true) (hf : F_X12_quiet_109 a0 l1 l2 l3 l6 l7 σ = some o) (hb0 : ∀ (v : Int32 × Int32 × Int32 × hSt), o = .inl v → ∀ (H : Heap) (locs : List Loc) (ls : Array Slot), Wd D ay kM NM ad (aN NM ad) s v.2.2.2 H locs → lv_has ls 8 [(0, .ref (ad a0)), (1, .int l1), (2, .int l2), (3, .int l3), (4, .int v.1), (5, .int v.2.1), (6, .int v.2.2.1)] → W p l e (rmK 7 170) s m args below meth c H locs 0 0 (MQ below (cI D ay kM NM ad r0 σ0) args s 0 0 (aN NM ad)) (F0 m 57 ls [])) (hr : ∀ x, o = .inr (x) → x = (r0, σ0)) (w : Wd D ay kM NM ad (aN NM ad) s σ H locs) (hl : lv_has ls 8 [(0, .ref (ad a0)), (1, .int l1), (2, .int l2), (3, .int l3), (6, .int l6), (7, .int l7)]) : W p l e (rmK 7 170) s m args below meth c H locs 0 0 (MQ below (cI D ay kM NM ad r0 σ0) args s 0 0 (aN NM ad)) (F0 m 109 ls []) := by
  have k_a0 := okr_in ok_a0
  unfold F_X12_quiet_109 at hf
  refine lv_iload G.hx G.hb (dcs_get dec_X12_quiet_1 18 rfl) (lv_at hl 4 rfl) ?_
  refine lv_istore (lv' := [(4, .int l6), (0, .ref (ad a0)), (1, .int l1), (2, .int l2), (3, .int l3), (6, .int l6), (7, .int l7)]) G.hx G.hb (dcs_get dec_X12_quiet_1 19 rfl) hl (by decide) rfl (fun ls hl => ?_)
  refine lv_iload G.hx G.hb (dcs_get dec_X12_quiet_1 20 rfl) (lv_at hl 6 rfl) ?_
  refine lv_istore (lv' := [(5, .int l7), (4, .int l6), (0, .ref (ad a0)), (1, .int l1), (2, .int l2), (3, .int l3), (6, .int l6), (7, .int l7)]) G.hx G.hb (dcs_get dec_X12_quiet_1 21 rfl) hl (by decide) rfl (fun ls hl => ?_)
  exact B_X12_quiet_117 a0 l1 l2 l3 l6 l7 l6 σ G hm ok_a0 hf hb0 hr w (lv_sub hl [2, 3, 4, 5, 1, 0, 6] rfl)
set_option maxRecDepth 100000 in
set_option maxHeartbeats 4000000 in
theorem B_X12_quiet_134 {H : Heap} {locs : List Loc} {ls : Array Slot} {r0 : Int32} {σ0 : hSt} (s0 : Int32) (σ : hSt) (G : Gx p m c cX12_quiet 8 s args RX12 D ay NM ad (aN NM ad)) (hm : meth.sig.returnType = (some .int) ∧ meth.locks = false)  (hf : F_X12_quiet_134 s0 σ = some (r0, σ0))  (w : Wd D ay kM NM ad (aN NM ad) s σ H locs) (hl : lv_has ls 8 []) : W p l e (rmK 7 170) s m args below meth c H locs 0 0 (MQ below (cI D ay kM NM ad r0 σ0) args s 0 0 (aN NM ad)) (F0 m 134 ls [.int s0]) := by
  unfold F_X12_quiet_134 at hf
  have e9 := Option.some.inj hf
  exact r_iret G w hm (congrArg Prod.fst e9) (congrArg Prod.snd e9) (dcs_get dec_X12_quiet_1 29 rfl)
set_option maxRecDepth 100000 in
set_option maxHeartbeats 4000000 in
theorem B_X12_quiet_57b {H : Heap} {locs : List Loc} {ls : Array Slot} {r0 : Int32} {σ0 : hSt} {o : (Int32 × Int32 × Int32 × hSt) ⊕ (Int32 × hSt)} (a0 : Nat) (l1 : Int32) (l2 : Int32) (l3 : Int32) (l4 : Int32) (l5 : Int32) (l6 : Int32) (σ : hSt) (G : Gx p m c cX12_quiet 8 s args RX12 D ay NM ad (aN NM ad)) (hm : meth.sig.returnType = (some .int) ∧ meth.locks = false) (ok_a0 : okr kM NM 12 a0 = true) (hf : F_X12_quiet_57b a0 l1 l2 l3 l4 l5 l6 σ = some o) (hb0 : ∀ (v : Int32 × Int32 × Int32 × hSt), o = .inl v → ∀ (H : Heap) (locs : List Loc) (ls : Array Slot), Wd D ay kM NM ad (aN NM ad) s v.2.2.2 H locs → lv_has ls 8 [(0, .ref (ad a0)), (1, .int l1), (2, .int l2), (3, .int l3), (4, .int v.1), (5, .int v.2.1), (6, .int v.2.2.1)] → W p l e (rmK 7 170) s m args below meth c H locs 0 0 (MQ below (cI D ay kM NM ad r0 σ0) args s 0 0 (aN NM ad)) (F0 m 57 ls [])) (hr : ∀ x, o = .inr (x) → x = (r0, σ0)) (w : Wd D ay kM NM ad (aN NM ad) s σ H locs) (hl : lv_has ls 8 [(0, .ref (ad a0)), (1, .int l1), (2, .int l2), (3, .int l3), (4, .int l4), (5, .int l5), (6, .int l6)]) : W p l e (rmK 7 170) s m args below meth c H locs 0 0 (MQ below (cI D ay kM NM ad r0 σ0) args s 0 0 (aN NM ad)) (F0 m 57 ls []) := by
  have k_a0 := okr_in ok_a0
  unfold F_X12_quiet_57b at hf
  refine lv_iload G.hx G.hb (dcs_get dec_X12_quiet_0 33 rfl) (lv_at hl 6 rfl) ?_
  refine lv_aload_n G.hx G.hb (dcs_get dec_X12_quiet_0 34 rfl) rfl (lv_at hl 0 rfl) ?_
  obtain ⟨z2, e_z2, ok_z2, hf⟩ := cR_some hf
  have k_z2 := okr_in ok_z2
  refine r_getr (k := 24) cls12 fi_12_24.1 fi_12_24.2 q_1032 G w k_a0.1 k_a0.2 e_z2 (dcs_get dec_X12_quiet_0 35 rfl) ?_
  refine lv_aload_n G.hx G.hb (dcs_get dec_X12_quiet_0 36 rfl) rfl (lv_at hl 0 rfl) ?_
  refine r_geti (k := 18) cls12 fi_12_18.1 fi_12_18.2 q_1026 G w k_a0.1 k_a0.2 (dcs_get dec_X12_quiet_0 37 rfl) ?_
  obtain ⟨h3, hf⟩ := cG_some hf
  refine r_iald G w k_z2.1 k_z2.2 h3 (dcs_get dec_X12_quiet_0 38 rfl) ?_
  refine lv_icmp_ge (tgt := 123) G.hx G.hb (dcs_get dec_X12_quiet_0 39 rfl) (by decide) (fun hc => ?_) (fun hc => ?_)
  · rw [if_pos hc] at hf
    refine lv_iload_n G.hx G.hb (dcs_get dec_X12_quiet_1 24 rfl) rfl (lv_at hl 3 rfl) ?_
    refine lv_if_ne (tgt := 132) G.hx G.hb (dcs_get dec_X12_quiet_1 25 rfl) (by decide) (fun hc => ?_) (fun hc => ?_)
    · rw [if_neg hc] at hf
      refine lv_iload G.hx G.hb (dcs_get dec_X12_quiet_1 28 rfl) (lv_at hl 5 rfl) ?_
      obtain ⟨x9, h9, e9⟩ := map_some_inv hf
      subst e9
      have e8 := hr _ rfl
      rw [e8] at h9
      exact B_X12_quiet_134 l5 σ G hm  h9 w (lv_sub hl [] rfl)
    · rw [if_pos hc] at hf
      refine lv_iload G.hx G.hb (dcs_get dec_X12_quiet_1 26 rfl) (lv_at hl 4 rfl) ?_
      refine lv_goto (tgt := 134) G.hx G.hb (dcs_get dec_X12_quiet_1 27 rfl) (by decide) ?_
      obtain ⟨x9, h9, e9⟩ := map_some_inv hf
      subst e9
      have e8 := hr _ rfl
      rw [e8] at h9
      exact B_X12_quiet_134 l4 σ G hm  h9 w (lv_sub hl [] rfl)
  · rw [if_neg hc] at hf
    refine lv_aload_n G.hx G.hb (dcs_get dec_X12_quiet_1 0 rfl) rfl (lv_at hl 0 rfl) ?_
    obtain ⟨σ5, h4, hf⟩ := cB_some hf
    refine a_v (k_V (As := []) (rest := []) cls12 lb_X12_copies lv_X12_copies q_1388 (C_X12_copies G.2.2.1 a0 σ h4 ok_a0) ⟨(Nat.le_of_ble_eq_true rfl), (Nat.le_of_ble_eq_true rfl)⟩ G w k_a0.1 k_a0.2 rfl rfl hl.1 (Nat.le_of_ble_eq_true rfl) (dcs_get dec_X12_quiet_1 1 rfl) ⟨Nat.le_refl _, Nat.le_refl _⟩) G w (fun H locs w => ?_)
    refine lv_aload_n G.hx G.hb (dcs_get dec_X12_quiet_1 2 rfl) rfl (lv_at hl 0 rfl) ?_
    refine lv_iload G.hx G.hb (dcs_get dec_X12_quiet_1 3 rfl) (lv_at hl 6 rfl) ?_
    obtain ⟨σ6, e_σ6, hf⟩ := cL_some hf
    refine r_puti (k := 56) cls12 ct12 fi_12_56.1 fi_12_56.2 fp_12_56.1 fp_12_56.2 q_1064 rfl rfl G w k_a0.1 k_a0.2 (dcs_get dec_X12_quiet_1 4 rfl) (fun H locs w => ?_)
    have w := Wd.nm e_σ6 w
    refine lv_aload_n G.hx G.hb (dcs_get dec_X12_quiet_1 5 rfl) rfl (lv_at hl 0 rfl) ?_
    refine lv_iload_n G.hx G.hb (dcs_get dec_X12_quiet_1 6 rfl) rfl (lv_at hl 1 rfl) ?_
    refine lv_iload_n G.hx G.hb (dcs_get dec_X12_quiet_1 7 rfl) rfl (lv_at hl 2 rfl) ?_
    obtain ⟨v8, σ9, h7, hf⟩ := cC_some hf
    refine a_i (k_V (As := [.int l1, .int l2]) (rest := []) cls12 lb_X12_knownBy lv_X12_knownBy q_1452 (C_X12_knownBy G.2.2.1 a0 l1 l2 σ6 h7 ok_a0) ⟨(Nat.le_of_ble_eq_true rfl), (Nat.le_of_ble_eq_true rfl)⟩ G w k_a0.1 k_a0.2 rfl rfl hl.1 (Nat.le_of_ble_eq_true rfl) (dcs_get dec_X12_quiet_1 8 rfl) ⟨Nat.le_refl _, Nat.le_refl _⟩) G w (fun H locs w => ?_)
    refine lv_istore (lv' := [(7, .int v8), (0, .ref (ad a0)), (1, .int l1), (2, .int l2), (3, .int l3), (4, .int l4), (5, .int l5), (6, .int l6)]) G.hx G.hb (dcs_get dec_X12_quiet_1 9 rfl) hl (by decide) rfl (fun ls hl => ?_)
    refine lv_iload G.hx G.hb (dcs_get dec_X12_quiet_1 10 rfl) (lv_at hl 0 rfl) ?_
    refine lv_if_lt (tgt := 117) G.hx G.hb (dcs_get dec_X12_quiet_1 11 rfl) (by decide) (fun hc => ?_) (fun hc => ?_)
    · rw [if_pos hc] at hf
      exact B_X12_quiet_117 a0 l1 l2 l3 l4 l5 l6 σ9 G hm ok_a0 hf hb0 hr w (lv_sub hl [1, 2, 3, 4, 5, 6, 7] rfl)
    · rw [if_neg hc] at hf
      refine lv_iload G.hx G.hb (dcs_get dec_X12_quiet_1 12 rfl) (lv_at hl 6 rfl) ?_
      refine lv_if_lt (tgt := 109) G.hx G.hb (dcs_get dec_X12_quiet_1 13 rfl) (by decide) (fun hc => ?_) (fun hc => ?_)
      · rw [if_pos hc] at hf
        exact B_X12_quiet_109 a0 l1 l2 l3 l6 v8 σ9 G hm ok_a0 hf hb0 hr w (lv_sub hl [1, 2, 3, 4, 7, 0] rfl)
      · rw [if_neg hc] at hf
        refine lv_iload G.hx G.hb (dcs_get dec_X12_quiet_1 14 rfl) (lv_at hl 0 rfl) ?_
        refine lv_iload G.hx G.hb (dcs_get dec_X12_quiet_1 15 rfl) (lv_at hl 6 rfl) ?_
        refine lv_icmp_lt (tgt := 109) G.hx G.hb (dcs_get dec_X12_quiet_1 16 rfl) (by decide) (fun hc => ?_) (fun hc => ?_)
        · rw [if_pos hc] at hf
          exact B_X12_quiet_109 a0 l1 l2 l3 l6 v8 σ9 G hm ok_a0 hf hb0 hr w (lv_sub hl [1, 2, 3, 4, 7, 0] rfl)
        · rw [if_neg hc] at hf
          refine lv_goto (tgt := 117) G.hx G.hb (dcs_get dec_X12_quiet_1 17 rfl) (by decide) ?_
          exact B_X12_quiet_117 a0 l1 l2 l3 l4 l5 l6 σ9 G hm ok_a0 hf hb0 hr w (lv_sub hl [1, 2, 3, 4, 5, 6, 7] rfl)
set_option maxRecDepth 100000 in
set_option maxHeartbeats 4000000 in
theorem H_X12_quiet_57 {r0 : Int32} {σ0 : hSt} (a0 : Nat) (l1 : Int32) (l2 : Int32) (l3 : Int32) (G : Gx p m c cX12_quiet 8 s args RX12 D ay NM ad (aN NM ad)) (hm : meth.sig.returnType = (some .int) ∧ meth.locks = false) (ok_a0 : okr kM NM 12 a0 = true)  : ∀ (k : Nat) (v : Int32 × Int32 × Int32 × hSt), lp (S_X12_quiet_57 a0 l1 l2 l3) k v = some (r0, σ0) → ∀ (H : Heap) (locs : List Loc) (ls : Array Slot), Wd D ay kM NM ad (aN NM ad) s v.2.2.2 H locs → lv_has ls 8 [(0, .ref (ad a0)), (1, .int l1), (2, .int l2), (3, .int l3), (4, .int v.1), (5, .int v.2.1), (6, .int v.2.2.1)] → W p l e (rmK 7 170) s m args below meth c H locs 0 0 (MQ below (cI D ay kM NM ad r0 σ0) args s 0 0 (aN NM ad)) (F0 m 57 ls []) := by
  intro k
  induction k with
  | zero => intro v hf; cases hf
  | succ k ih =>
    intro v hf H locs ls w hl
    obtain ⟨o1, h1, h2, h3⟩ := lp_some hf
    exact B_X12_quiet_57b a0 l1 l2 l3 v.1 v.2.1 v.2.2.1 v.2.2.2 G hm ok_a0 h1  (fun v' e => ih v' (h2 v' e)) (fun x e => h3 x e) w hl
set_option maxRecDepth 100000 in
set_option maxHeartbeats 4000000 in
theorem B_X12_quiet_57 {H : Heap} {locs : List Loc} {ls : Array Slot} {r0 : Int32} {σ0 : hSt} (a0 : Nat) (l1 : Int32) (l2 : Int32) (l3 : Int32) (l4 : Int32) (l5 : Int32) (l6 : Int32) (σ : hSt) (G : Gx p m c cX12_quiet 8 s args RX12 D ay NM ad (aN NM ad)) (hm : meth.sig.returnType = (some .int) ∧ meth.locks = false) (ok_a0 : okr kM NM 12 a0 = true) (hf : F_X12_quiet_57 a0 l1 l2 l3 l4 l5 l6 σ = some (r0, σ0))  (w : Wd D ay kM NM ad (aN NM ad) s σ H locs) (hl : lv_has ls 8 [(0, .ref (ad a0)), (1, .int l1), (2, .int l2), (3, .int l3), (4, .int l4), (5, .int l5), (6, .int l6)]) : W p l e (rmK 7 170) s m args below meth c H locs 0 0 (MQ below (cI D ay kM NM ad r0 σ0) args s 0 0 (aN NM ad)) (F0 m 57 ls []) := by
  unfold F_X12_quiet_57 at hf
  exact H_X12_quiet_57 a0 l1 l2 l3  G hm ok_a0  fuel (l4, l5, l6, σ) hf _ _ _ w hl
set_option maxRecDepth 100000 in
set_option maxHeartbeats 4000000 in
theorem B_X12_quiet_0 {H : Heap} {locs : List Loc} {ls : Array Slot} {r0 : Int32} {σ0 : hSt} (a0 : Nat) (l1 : Int32) (l2 : Int32) (l3 : Int32) (σ : hSt) (G : Gx p m c cX12_quiet 8 s args RX12 D ay NM ad (aN NM ad)) (hm : meth.sig.returnType = (some .int) ∧ meth.locks = false) (ok_a0 : okr kM NM 12 a0 = true) (hf : F_X12_quiet a0 l1 l2 l3 σ = some (r0, σ0))  (w : Wd D ay kM NM ad (aN NM ad) s σ H locs) (hl : lv_has ls 8 [(0, .ref (ad a0)), (1, .int l1), (2, .int l2), (3, .int l3)]) : W p l e (rmK 7 170) s m args below meth c H locs 0 0 (MQ below (cI D ay kM NM ad r0 σ0) args s 0 0 (aN NM ad)) (F0 m 0 ls []) := by
  have k_a0 := okr_in ok_a0
  unfold F_X12_quiet at hf
  refine lv_aload_n G.hx G.hb (dcs_get dec_X12_quiet_0 0 rfl) rfl (lv_at hl 0 rfl) ?_
  refine lv_iload_n G.hx G.hb (dcs_get dec_X12_quiet_0 1 rfl) rfl (lv_at hl 1 rfl) ?_
  obtain ⟨v11, h10, hf⟩ := cB_some hf
  refine a_i (k_V (As := [.int l1]) (rest := []) cls12 lb_X12_isNews lv_X12_isNews q_1376 (C_X12_isNews G.2.2.1 a0 l1 σ h10 ok_a0) ⟨(Nat.le_of_ble_eq_true rfl), (Nat.le_of_ble_eq_true rfl)⟩ G w k_a0.1 k_a0.2 rfl rfl hl.1 (Nat.le_of_ble_eq_true rfl) (dcs_get dec_X12_quiet_0 2 rfl) ⟨Nat.le_refl _, Nat.le_refl _⟩) G w (fun H locs w => ?_)
  refine lv_if_eq (tgt := 25) G.hx G.hb (dcs_get dec_X12_quiet_0 3 rfl) (by decide) (fun hc => ?_) (fun hc => ?_)
  · rw [if_pos hc] at hf
    exact B_X12_quiet_25  σ G hm  hf  w (lv_sub hl [] rfl)
  · rw [if_neg hc] at hf
    refine lv_aload_n G.hx G.hb (dcs_get dec_X12_quiet_0 4 rfl) rfl (lv_at hl 0 rfl) ?_
    refine lv_iload_n G.hx G.hb (dcs_get dec_X12_quiet_0 5 rfl) rfl (lv_at hl 2 rfl) ?_
    obtain ⟨v13, h12, hf⟩ := cB_some hf
    refine a_i (k_V (As := [.int l2]) (rest := []) cls12 lb_X12_isHill lv_X12_isHill q_1346 (C_X12_isHill G.2.2.1 a0 l2 σ h12 ok_a0) ⟨(Nat.le_of_ble_eq_true rfl), (Nat.le_of_ble_eq_true rfl)⟩ G w k_a0.1 k_a0.2 rfl rfl hl.1 (Nat.le_of_ble_eq_true rfl) (dcs_get dec_X12_quiet_0 6 rfl) ⟨Nat.le_refl _, Nat.le_refl _⟩) G w (fun H locs w => ?_)
    refine lv_if_eq (tgt := 25) G.hx G.hb (dcs_get dec_X12_quiet_0 7 rfl) (by decide) (fun hc => ?_) (fun hc => ?_)
    · rw [if_pos hc] at hf
      exact B_X12_quiet_25  σ G hm  hf  w (lv_sub hl [] rfl)
    · rw [if_neg hc] at hf
      refine lv_iload_n G.hx G.hb (dcs_get dec_X12_quiet_0 8 rfl) rfl (lv_at hl 3 rfl) ?_
      refine lv_iconst (v := (0 : Int32)) G.hx G.hb (dcs_get dec_X12_quiet_0 9 rfl) (by decide) ?_
      refine lv_iconst (v := (1 : Int32)) G.hx G.hb (dcs_get dec_X12_quiet_0 10 rfl) (by decide) ?_
      obtain ⟨v15, h14, hf⟩ := cB_some hf
      refine a_i (k_S (As := [.int l3, .int (0 : Int32), .int (1 : Int32)]) (rest := []) lb_X12_in q_1351 q_1350 (C_X12_in G.2.2.1 l3 (0 : Int32) (1 : Int32) σ h14 ) ⟨(Nat.le_of_ble_eq_true rfl), (Nat.le_of_ble_eq_true rfl)⟩ G w rfl rfl hl.1 (Nat.le_of_ble_eq_true rfl) (dcs_get dec_X12_quiet_0 11 rfl) ⟨Nat.le_refl _, Nat.le_refl _⟩) G w (fun H locs w => ?_)
      refine lv_if_ne (tgt := 27) G.hx G.hb (dcs_get dec_X12_quiet_0 12 rfl) (by decide) (fun hc => ?_) (fun hc => ?_)
      · rw [if_neg hc] at hf
        refine lv_aload_n G.hx G.hb (dcs_get dec_X12_quiet_0 15 rfl) rfl (lv_at hl 0 rfl) ?_
        obtain ⟨σ17, h16, hf⟩ := cB_some hf
        refine a_v (k_V (As := []) (rest := []) cls12 lb_X12_copies lv_X12_copies q_1388 (C_X12_copies G.2.2.1 a0 σ h16 ok_a0) ⟨(Nat.le_of_ble_eq_true rfl), (Nat.le_of_ble_eq_true rfl)⟩ G w k_a0.1 k_a0.2 rfl rfl hl.1 (Nat.le_of_ble_eq_true rfl) (dcs_get dec_X12_quiet_0 16 rfl) ⟨Nat.le_refl _, Nat.le_refl _⟩) G w (fun H locs w => ?_)
        refine lv_aload_n G.hx G.hb (dcs_get dec_X12_quiet_0 17 rfl) rfl (lv_at hl 0 rfl) ?_
        refine lv_iload_n G.hx G.hb (dcs_get dec_X12_quiet_0 18 rfl) rfl (lv_at hl 2 rfl) ?_
        refine lv_iload_n G.hx G.hb (dcs_get dec_X12_quiet_0 19 rfl) rfl (lv_at hl 1 rfl) ?_
        obtain ⟨v19, h18, hf⟩ := cB_some hf
        refine a_i (k_V (As := [.int l2, .int l1]) (rest := []) cls12 lb_X12_knows lv_X12_knows q_1392 (C_X12_knows G.2.2.1 a0 l2 l1 σ17 h18 ok_a0) ⟨(Nat.le_of_ble_eq_true rfl), (Nat.le_of_ble_eq_true rfl)⟩ G w k_a0.1 k_a0.2 rfl rfl hl.1 (Nat.le_of_ble_eq_true rfl) (dcs_get dec_X12_quiet_0 20 rfl) ⟨Nat.le_refl _, Nat.le_refl _⟩) G w (fun H locs w => ?_)
        refine lv_if_eq (tgt := 42) G.hx G.hb (dcs_get dec_X12_quiet_0 21 rfl) (by decide) (fun hc => ?_) (fun hc => ?_)
        · rw [if_pos hc] at hf
          refine lv_bipush (v := (-2 : Int32)) G.hx G.hb (dcs_get dec_X12_quiet_0 24 rfl) (by decide) ?_
          refine lv_istore (lv' := [(4, .int (-2 : Int32)), (0, .ref (ad a0)), (1, .int l1), (2, .int l2), (3, .int l3)]) G.hx G.hb (dcs_get dec_X12_quiet_0 25 rfl) hl (by decide) rfl (fun ls hl => ?_)
          refine lv_aload_n G.hx G.hb (dcs_get dec_X12_quiet_0 26 rfl) rfl (lv_at hl 1 rfl) ?_
          refine lv_iload_n G.hx G.hb (dcs_get dec_X12_quiet_0 27 rfl) rfl (lv_at hl 2 rfl) ?_
          refine lv_iload_n G.hx G.hb (dcs_get dec_X12_quiet_0 28 rfl) rfl (lv_at hl 3 rfl) ?_
          obtain ⟨v21, σ22, h20, hf⟩ := cC_some hf
          refine a_i (k_V (As := [.int l1, .int l2]) (rest := []) cls12 lb_X12_knownBy lv_X12_knownBy q_1452 (C_X12_knownBy G.2.2.1 a0 l1 l2 σ17 h20 ok_a0) ⟨(Nat.le_of_ble_eq_true rfl), (Nat.le_of_ble_eq_true rfl)⟩ G w k_a0.1 k_a0.2 rfl rfl hl.1 (Nat.le_of_ble_eq_true rfl) (dcs_get dec_X12_quiet_0 29 rfl) ⟨Nat.le_refl _, Nat.le_refl _⟩) G w (fun H locs w => ?_)
          refine lv_istore (lv' := [(5, .int v21), (4, .int (-2 : Int32)), (0, .ref (ad a0)), (1, .int l1), (2, .int l2), (3, .int l3)]) G.hx G.hb (dcs_get dec_X12_quiet_0 30 rfl) hl (by decide) rfl (fun ls hl => ?_)
          refine lv_iconst (v := (0 : Int32)) G.hx G.hb (dcs_get dec_X12_quiet_0 31 rfl) (by decide) ?_
          refine lv_istore (lv' := [(6, .int (0 : Int32)), (5, .int v21), (4, .int (-2 : Int32)), (0, .ref (ad a0)), (1, .int l1), (2, .int l2), (3, .int l3)]) G.hx G.hb (dcs_get dec_X12_quiet_0 32 rfl) hl (by decide) rfl (fun ls hl => ?_)
          exact B_X12_quiet_57 a0 l1 l2 l3 (-2 : Int32) v21 (0 : Int32) σ22 G hm ok_a0 hf  w (lv_sub hl [3, 4, 5, 6, 2, 1, 0] rfl)
        · rw [if_neg hc] at hf
          refine lv_iconst (v := (-1 : Int32)) G.hx G.hb (dcs_get dec_X12_quiet_0 22 rfl) (by decide) ?_
          have e9 := Option.some.inj hf
          exact r_iret G w hm (congrArg Prod.fst e9) (congrArg Prod.snd e9) (dcs_get dec_X12_quiet_0 23 rfl)
      · rw [if_pos hc] at hf
        exact B_X12_quiet_25  σ G hm  hf  w (lv_sub hl [] rfl)
end
set_option maxRecDepth 100000 in
set_option maxHeartbeats 4000000 in
theorem C_X12_quiet {l : Launch} {D : va_G} {ay : Nat → ClassId} {ad : Nat → Nat} (hi : hInj NM ad) (a0 : Nat) (l1 : Int32) (l2 : Int32) (l3 : Int32) (σ : hSt) {r0 : Int32} {σ0 : hSt} (hf : F_X12_quiet a0 l1 l2 l3 σ = some (r0, σ0)) (ok_a0 : okr kM NM 12 a0 = true) : hM l D ay kM NM ad yX12_quiet cX12_quiet 8 ((some .int)) (rmK 7 170) [.ref (ad a0), .int l1, .int l2, .int l3] σ (cI D ay kM NM ad r0 σ0) := by
  refine hM_in (by decide) hi (Nat.le_of_ble_eq_true rfl) ?_
  intro p e s m below meth c G hm w ls hl
  exact B_X12_quiet_0 a0 l1 l2 l3 σ G hm ok_a0 hf w (lv_sub hl [0, 1, 2, 3] rfl)

/-! HillDrumsModel.bits(I)I -/
def DL_X12_bits_0 : List (Nat × Instr × Nat) := [(0, .iconst 0, 1), (1, .istore_n 1, 1), (2, .iconst 0, 1), (3, .istore_n 2, 1), (4, .iload_n 2, 1), (5, .bipush 6, 2), (7, .if_icmp .ge 17, 3), (10, .iload_n 1, 1), (11, .iload_n 0, 1), (12, .iload_n 2, 1), (13, .ishr, 1), (14, .iconst 1, 1), (15, .iand, 1), (16, .iadd, 1), (17, .istore_n 1, 1), (18, .iinc 2 1, 3), (21, .goto (-17), 3), (24, .iload_n 1, 1), (25, .ireturn, 1)]
set_option maxRecDepth 100000 in
theorem dec_X12_bits_0 : dcs cX12_bits DL_X12_bits_0 = true := by decide +kernel
theorem lb_X12_bits : lkB yX12_bits cX12_bits 3 ((some .int)) 1 := ⟨q_1506, q_14, ⟨by decide, by decide⟩, by decide +kernel⟩
def F_X12_bits_4b (l0 : Int32) (l1 : Int32) (l2 : Int32) (σ : hSt) : Option ((Int32 × Int32) ⊕ (Int32)) :=
if (6 : Int32) ≤ l2 then (
some (.inr (l1))) else (
cL (l1 + ((l0 >>> (l2 &&& 31)) &&& (1 : Int32))) fun v1 =>
cL (l2 + (1 : Int32)) fun v2 =>
some (.inl (v1, v2)))
def S_X12_bits_4 (l0 : Int32) (σ : hSt) (v : Int32 × Int32) : Option ((Int32 × Int32) ⊕ (Int32)) := F_X12_bits_4b l0 v.1 v.2 σ
def F_X12_bits_4 (l0 : Int32) (l1 : Int32) (l2 : Int32) (σ : hSt) : Option (Int32) := lp (S_X12_bits_4 l0 σ) fuel (l1, l2)
def F_X12_bits (l0 : Int32) (σ : hSt) : Option (Int32) :=
F_X12_bits_4 l0 (0 : Int32) (0 : Int32) σ
section
variable {p : Program} {l : Launch} {e : Env} {s : State} {m : MethodId} {args : Array Value} {below : List Frame} {meth : Method} {c : Code} {D : va_G} {ay : Nat → ClassId} {ad : Nat → Nat}
set_option maxRecDepth 100000 in
set_option maxHeartbeats 4000000 in
theorem B_X12_bits_4b {H : Heap} {locs : List Loc} {ls : Array Slot} {r0 : Int32} {o : (Int32 × Int32) ⊕ (Int32)} (l0 : Int32) (l1 : Int32) (l2 : Int32) (σ : hSt) (G : Gx p m c cX12_bits 3 s args RX12 D ay NM ad (aN NM ad)) (hm : meth.sig.returnType = (some .int) ∧ meth.locks = false)  (hf : F_X12_bits_4b l0 l1 l2 σ = some o) (hb0 : ∀ (v : Int32 × Int32), o = .inl v → ∀ (H : Heap) (locs : List Loc) (ls : Array Slot), Wd D ay kM NM ad (aN NM ad) s σ H locs → lv_has ls 3 [(0, .int l0), (1, .int v.1), (2, .int v.2)] → W p l e (rmK 0 0) s m args below meth c H locs 0 0 (MQ below (cI D ay kM NM ad r0 σ) args s 0 0 (aN NM ad)) (F0 m 4 ls [])) (hr : ∀ x, o = .inr (x) → x = r0) (w : Wd D ay kM NM ad (aN NM ad) s σ H locs) (hl : lv_has ls 3 [(0, .int l0), (1, .int l1), (2, .int l2)]) : W p l e (rmK 0 0) s m args below meth c H locs 0 0 (MQ below (cI D ay kM NM ad r0 σ) args s 0 0 (aN NM ad)) (F0 m 4 ls []) := by
  unfold F_X12_bits_4b at hf
  refine lv_iload_n G.hx G.hb (dcs_get dec_X12_bits_0 4 rfl) rfl (lv_at hl 2 rfl) ?_
  refine lv_bipush (v := (6 : Int32)) G.hx G.hb (dcs_get dec_X12_bits_0 5 rfl) (by decide) ?_
  refine lv_icmp_ge (tgt := 24) G.hx G.hb (dcs_get dec_X12_bits_0 6 rfl) (by decide) (fun hc => ?_) (fun hc => ?_)
  · rw [if_pos hc] at hf
    refine lv_iload_n G.hx G.hb (dcs_get dec_X12_bits_0 17 rfl) rfl (lv_at hl 1 rfl) ?_
    have e9 := hr _ (Option.some.inj hf).symm
    exact r_iret G w hm e9 rfl (dcs_get dec_X12_bits_0 18 rfl)
  · rw [if_neg hc] at hf
    refine lv_iload_n G.hx G.hb (dcs_get dec_X12_bits_0 7 rfl) rfl (lv_at hl 1 rfl) ?_
    refine lv_iload_n G.hx G.hb (dcs_get dec_X12_bits_0 8 rfl) rfl (lv_at hl 0 rfl) ?_
    refine lv_iload_n G.hx G.hb (dcs_get dec_X12_bits_0 9 rfl) rfl (lv_at hl 2 rfl) ?_
    refine lv_ishr G.hx G.hb (dcs_get dec_X12_bits_0 10 rfl) ?_
    refine lv_iconst (v := (1 : Int32)) G.hx G.hb (dcs_get dec_X12_bits_0 11 rfl) (by decide) ?_
    refine lv_iand G.hx G.hb (dcs_get dec_X12_bits_0 12 rfl) ?_
    refine lv_iadd G.hx G.hb (dcs_get dec_X12_bits_0 13 rfl) ?_
    obtain ⟨v1, e_v1, hf⟩ := cL_some hf
    refine r_topi e_v1 ?_
    refine lv_istore_n (lv' := [(1, .int v1), (0, .int l0), (2, .int l2)]) G.hx G.hb (dcs_get dec_X12_bits_0 14 rfl) rfl hl (by decide) rfl (fun ls hl => ?_)
    obtain ⟨v2, e_v2, hf⟩ := cL_some hf
    refine lv_iinc (v := v2) (lv' := [(2, .int v2), (1, .int v1), (0, .int l0)]) G.hx G.hb (dcs_get dec_X12_bits_0 15 rfl) hl (k := 2) rfl (by rw [e_v2]; rfl) (by decide) rfl (fun ls hl => ?_)
    refine lv_goto (tgt := 4) G.hx G.hb (dcs_get dec_X12_bits_0 16 rfl) (by decide) ?_
    exact hb0 _ (Option.some.inj hf).symm _ _ _ w (lv_sub hl [2, 1, 0] rfl)
set_option maxRecDepth 100000 in
set_option maxHeartbeats 4000000 in
theorem H_X12_bits_4 {r0 : Int32} (l0 : Int32) (σ : hSt) (G : Gx p m c cX12_bits 3 s args RX12 D ay NM ad (aN NM ad)) (hm : meth.sig.returnType = (some .int) ∧ meth.locks = false)   : ∀ (k : Nat) (v : Int32 × Int32), lp (S_X12_bits_4 l0 σ) k v = some r0 → ∀ (H : Heap) (locs : List Loc) (ls : Array Slot), Wd D ay kM NM ad (aN NM ad) s σ H locs → lv_has ls 3 [(0, .int l0), (1, .int v.1), (2, .int v.2)] → W p l e (rmK 0 0) s m args below meth c H locs 0 0 (MQ below (cI D ay kM NM ad r0 σ) args s 0 0 (aN NM ad)) (F0 m 4 ls []) := by
  intro k
  induction k with
  | zero => intro v hf; cases hf
  | succ k ih =>
    intro v hf H locs ls w hl
    obtain ⟨o1, h1, h2, h3⟩ := lp_some hf
    exact B_X12_bits_4b l0 v.1 v.2 σ G hm  h1  (fun v' e => ih v' (h2 v' e)) (fun x e => h3 x e) w hl
set_option maxRecDepth 100000 in
set_option maxHeartbeats 4000000 in
theorem B_X12_bits_4 {H : Heap} {locs : List Loc} {ls : Array Slot} {r0 : Int32} (l0 : Int32) (l1 : Int32) (l2 : Int32) (σ : hSt) (G : Gx p m c cX12_bits 3 s args RX12 D ay NM ad (aN NM ad)) (hm : meth.sig.returnType = (some .int) ∧ meth.locks = false)  (hf : F_X12_bits_4 l0 l1 l2 σ = some r0)  (w : Wd D ay kM NM ad (aN NM ad) s σ H locs) (hl : lv_has ls 3 [(0, .int l0), (1, .int l1), (2, .int l2)]) : W p l e (rmK 0 0) s m args below meth c H locs 0 0 (MQ below (cI D ay kM NM ad r0 σ) args s 0 0 (aN NM ad)) (F0 m 4 ls []) := by
  unfold F_X12_bits_4 at hf
  exact H_X12_bits_4 l0 σ G hm   fuel (l1, l2) hf _ _ _ w hl
set_option maxRecDepth 100000 in
set_option maxHeartbeats 4000000 in
theorem B_X12_bits_0 {H : Heap} {locs : List Loc} {ls : Array Slot} {r0 : Int32} (l0 : Int32) (σ : hSt) (G : Gx p m c cX12_bits 3 s args RX12 D ay NM ad (aN NM ad)) (hm : meth.sig.returnType = (some .int) ∧ meth.locks = false)  (hf : F_X12_bits l0 σ = some r0)  (w : Wd D ay kM NM ad (aN NM ad) s σ H locs) (hl : lv_has ls 3 [(0, .int l0)]) : W p l e (rmK 0 0) s m args below meth c H locs 0 0 (MQ below (cI D ay kM NM ad r0 σ) args s 0 0 (aN NM ad)) (F0 m 0 ls []) := by
  unfold F_X12_bits at hf
  refine lv_iconst (v := (0 : Int32)) G.hx G.hb (dcs_get dec_X12_bits_0 0 rfl) (by decide) ?_
  refine lv_istore_n (lv' := [(1, .int (0 : Int32)), (0, .int l0)]) G.hx G.hb (dcs_get dec_X12_bits_0 1 rfl) rfl hl (by decide) rfl (fun ls hl => ?_)
  refine lv_iconst (v := (0 : Int32)) G.hx G.hb (dcs_get dec_X12_bits_0 2 rfl) (by decide) ?_
  refine lv_istore_n (lv' := [(2, .int (0 : Int32)), (1, .int (0 : Int32)), (0, .int l0)]) G.hx G.hb (dcs_get dec_X12_bits_0 3 rfl) rfl hl (by decide) rfl (fun ls hl => ?_)
  exact B_X12_bits_4 l0 (0 : Int32) (0 : Int32) σ G hm  hf  w (lv_sub hl [2, 1, 0] rfl)
end
set_option maxRecDepth 100000 in
set_option maxHeartbeats 4000000 in
theorem C_X12_bits {l : Launch} {D : va_G} {ay : Nat → ClassId} {ad : Nat → Nat} (hi : hInj NM ad) (l0 : Int32) (σ : hSt) {r0 : Int32} (hf : F_X12_bits l0 σ = some r0)  : hM l D ay kM NM ad yX12_bits cX12_bits 3 ((some .int)) (rmK 0 0) [.int l0] σ (cI D ay kM NM ad r0 σ) := by
  refine hM_in (by decide) hi (Nat.le_of_ble_eq_true rfl) ?_
  intro p e s m below meth c G hm w ls hl
  exact B_X12_bits_0 l0 σ G hm  hf w (lv_sub hl [0] rfl)

/-! HillDrumsModel.canDrum(I)Z -/
def DL_X12_canDrum_0 : List (Nat × Instr × Nat) := [(0, .aload_n 0, 1), (1, .getfield 70, 3), (4, .aload_n 0, 1), (5, .getfield 236, 3), (8, .iaload, 1), (9, .ifCond .eq 16, 3), (12, .aload_n 0, 1), (13, .getfield 70, 3), (16, .aload_n 0, 1), (17, .getfield 236, 3), (20, .iaload, 1), (21, .iconst 3, 1), (22, .if_icmp .ne 5, 3), (25, .iconst 1, 1), (26, .ireturn, 1), (27, .iload_n 1, 1), (28, .istore_n 2, 1), (29, .iconst 1, 1), (30, .istore_n 3, 1), (31, .iload_n 2, 1), (32, .ifCond .eq 80, 3), (35, .iload_n 3, 1), (36, .ifCond .eq 76, 3), (39, .iconst 0, 1), (40, .istore_n 3, 1), (41, .iconst 0, 1), (42, .istore 4, 2), (44, .iload 4, 2), (46, .aload_n 0, 1), (47, .getfield 49, 3), (50, .aload_n 0, 1), (51, .getfield 236, 3), (54, .iaload, 1), (55, .if_icmp .ge 54, 3), (58, .iload_n 2, 1), (59, .iload 4, 2), (61, .ishr, 1), (62, .iconst 1, 1), (63, .iand, 1), (64, .ifCond .ne 6, 3)]
set_option maxRecDepth 100000 in
theorem dec_X12_canDrum_0 : dcs cX12_canDrum DL_X12_canDrum_0 = true := by decide +kernel
def DL_X12_canDrum_1 : List (Nat × Instr × Nat) := [(67, .goto 36, 3), (70, .aload_n 0, 1), (71, .getfield 122, 3), (74, .iload 4, 2), (76, .iaload, 1), (77, .iload_n 2, 1), (78, .iand, 1), (79, .iconst 1, 1), (80, .iload 4, 2), (82, .ishl, 1), (83, .iconst (-1), 1), (84, .ixor, 1), (85, .iand, 1), (86, .ifCond .eq 6, 3), (89, .goto 14, 3), (92, .iload_n 2, 1), (93, .iconst 1, 1), (94, .iload 4, 2), (96, .ishl, 1), (97, .iconst (-1), 1), (98, .ixor, 1), (99, .iand, 1), (100, .istore_n 2, 1), (101, .iconst 1, 1), (102, .istore_n 3, 1), (103, .iinc 4 1, 3), (106, .goto (-62), 3), (109, .goto (-78), 3), (112, .iload_n 2, 1), (113, .ifCond .ne 7, 3), (116, .iconst 1, 1), (117, .goto 4, 3), (120, .iconst 0, 1), (121, .ireturn, 1)]
set_option maxRecDepth 100000 in
theorem dec_X12_canDrum_1 : dcs cX12_canDrum DL_X12_canDrum_1 = true := by decide +kernel
theorem lb_X12_canDrum : lkB yX12_canDrum cX12_canDrum 5 ((some .boolean)) 1 := ⟨q_1499, q_14, ⟨by decide, by decide⟩, by decide +kernel⟩
theorem lv_X12_canDrum : lkV yX12_canDrum := ⟨q_1498, qs_116⟩
def F_X12_canDrum_25  (σ : hSt) : Option (Int32) :=
some ((1 : Int32))
def F_X12_canDrum_103 (a0 : Nat) (l2 : Int32) (l3 : Int32) (l4 : Int32) (σ : hSt) : Option ((Int32 × Int32 × Int32) ⊕ ((Int32 × Int32) ⊕ (Int32))) :=
cL (l4 + (1 : Int32)) fun v1 =>
some (.inl (l2, l3, v1))
def F_X12_canDrum_44b (a0 : Nat) (l2 : Int32) (l3 : Int32) (l4 : Int32) (σ : hSt) : Option ((Int32 × Int32 × Int32) ⊕ ((Int32 × Int32) ⊕ (Int32))) :=
cR (σ.2.2 a0 24) (okr kM NM 101) fun z2 =>
cG (inb (σ.1 a0 18) (kM z2).2) <|
if (σ.1 z2 (σ.1 a0 18).toNatClampNeg) ≤ l4 then (
some (.inr (.inl (l2, l3)))) else (
if ((l2 >>> (l4 &&& 31)) &&& (1 : Int32)) = 0 then (
F_X12_canDrum_103 a0 l2 l3 l4 σ) else (
cR (σ.2.2 a0 52) (okr kM NM 101) fun z4 =>
cG (inb l4 (kM z4).2) <|
if (((σ.1 z4 l4.toNatClampNeg) &&& l2) &&& (((1 : Int32) <<< (l4 &&& 31)) ^^^ (-1 : Int32))) = 0 then (
cL (l2 &&& (((1 : Int32) <<< (l4 &&& 31)) ^^^ (-1 : Int32))) fun v6 =>
F_X12_canDrum_103 a0 v6 (1 : Int32) l4 σ) else (
F_X12_canDrum_103 a0 l2 l3 l4 σ)))
def S_X12_canDrum_44 (a0 : Nat) (σ : hSt) (v : Int32 × Int32 × Int32) : Option ((Int32 × Int32 × Int32) ⊕ ((Int32 × Int32) ⊕ (Int32))) := F_X12_canDrum_44b a0 v.1 v.2.1 v.2.2 σ
def F_X12_canDrum_44 (a0 : Nat) (l2 : Int32) (l3 : Int32) (l4 : Int32) (σ : hSt) : Option ((Int32 × Int32) ⊕ (Int32)) := lp (S_X12_canDrum_44 a0 σ) fuel (l2, l3, l4)
def F_X12_canDrum_121 (s0 : Int32) (σ : hSt) : Option (Int32) :=
cG (isB s0) <|
some (s0)
def F_X12_canDrum_112 (l2 : Int32) (σ : hSt) : Option (Int32) :=
if l2 = 0 then (
F_X12_canDrum_121 (1 : Int32) σ) else (
F_X12_canDrum_121 (0 : Int32) σ)
def F_X12_canDrum_31b (a0 : Nat) (l2 : Int32) (l3 : Int32) (σ : hSt) : Option ((Int32 × Int32) ⊕ (Int32)) :=
if l2 = 0 then (
(F_X12_canDrum_112 l2 σ).map (fun x => .inr (x))) else (
if l3 = 0 then (
(F_X12_canDrum_112 l2 σ).map (fun x => .inr (x))) else (
F_X12_canDrum_44 a0 l2 (0 : Int32) (0 : Int32) σ))
def S_X12_canDrum_31 (a0 : Nat) (σ : hSt) (v : Int32 × Int32) : Option ((Int32 × Int32) ⊕ (Int32)) := F_X12_canDrum_31b a0 v.1 v.2 σ
def F_X12_canDrum_31 (a0 : Nat) (l2 : Int32) (l3 : Int32) (σ : hSt) : Option (Int32) := lp (S_X12_canDrum_31 a0 σ) fuel (l2, l3)
def F_X12_canDrum (a0 : Nat) (l1 : Int32) (σ : hSt) : Option (Int32) :=
cR (σ.2.2 a0 31) (okr kM NM 101) fun z8 =>
cG (inb (σ.1 a0 18) (kM z8).2) <|
if (σ.1 z8 (σ.1 a0 18).toNatClampNeg) = 0 then (
F_X12_canDrum_25  σ) else (
cR (σ.2.2 a0 31) (okr kM NM 101) fun z10 =>
cG (inb (σ.1 a0 18) (kM z10).2) <|
if (σ.1 z10 (σ.1 a0 18).toNatClampNeg) = (3 : Int32) then (
F_X12_canDrum_25  σ) else (
F_X12_canDrum_31 a0 l1 (1 : Int32) σ))
section
variable {p : Program} {l : Launch} {e : Env} {s : State} {m : MethodId} {args : Array Value} {below : List Frame} {meth : Method} {c : Code} {D : va_G} {ay : Nat → ClassId} {ad : Nat → Nat}
set_option maxRecDepth 100000 in
set_option maxHeartbeats 4000000 in
theorem B_X12_canDrum_25 {H : Heap} {locs : List Loc} {ls : Array Slot} {r0 : Int32}  (σ : hSt) (G : Gx p m c cX12_canDrum 5 s args RX12 D ay NM ad (aN NM ad)) (hm : meth.sig.returnType = (some .boolean) ∧ meth.locks = false)  (hf : F_X12_canDrum_25  σ = some r0)  (w : Wd D ay kM NM ad (aN NM ad) s σ H locs) (hl : lv_has ls 5 []) : W p l e (rmK 0 0) s m args below meth c H locs 0 0 (MQ below (cI D ay kM NM ad r0 σ) args s 0 0 (aN NM ad)) (F0 m 25 ls []) := by
  unfold F_X12_canDrum_25 at hf
  refine lv_iconst (v := (1 : Int32)) G.hx G.hb (dcs_get dec_X12_canDrum_0 13 rfl) (by decide) ?_
  have e9 := Option.some.inj hf
  exact r_zret rfl G w hm e9 rfl (dcs_get dec_X12_canDrum_0 14 rfl)
set_option maxRecDepth 100000 in
set_option maxHeartbeats 4000000 in
theorem B_X12_canDrum_103 {H : Heap} {locs : List Loc} {ls : Array Slot} {r0 : Int32} {o : (Int32 × Int32 × Int32) ⊕ ((Int32 × Int32) ⊕ (Int32))} (a0 : Nat) (l2 : Int32) (l3 : Int32) (l4 : Int32) (σ : hSt) (G : Gx p m c cX12_canDrum 5 s args RX12 D ay NM ad (aN NM ad)) (hm : meth.sig.returnType = (some .boolean) ∧ meth.locks = false) (ok_a0 : okr kM NM 12 a0 = true) (hf : F_X12_canDrum_103 a0 l2 l3 l4 σ = some o) (hb0 : ∀ (v : Int32 × Int32), o = .inr (.inl v) → ∀ (H : Heap) (locs : List Loc) (ls : Array Slot), Wd D ay kM NM ad (aN NM ad) s σ H locs → lv_has ls 5 [(0, .ref (ad a0)), (2, .int v.1), (3, .int v.2)] → W p l e (rmK 0 0) s m args below meth c H locs 0 0 (MQ below (cI D ay kM NM ad r0 σ) args s 0 0 (aN NM ad)) (F0 m 31 ls [])) (hb1 : ∀ (v : Int32 × Int32 × Int32), o = .inl v → ∀ (H : Heap) (locs : List Loc) (ls : Array Slot), Wd D ay kM NM ad (aN NM ad) s σ H locs → lv_has ls 5 [(0, .ref (ad a0)), (2, .int v.1), (3, .int v.2.1), (4, .int v.2.2)] → W p l e (rmK 0 0) s m args below meth c H locs 0 0 (MQ below (cI D ay kM NM ad r0 σ) args s 0 0 (aN NM ad)) (F0 m 44 ls [])) (hr : ∀ x, o = .inr (.inr (x)) → x = r0) (w : Wd D ay kM NM ad (aN NM ad) s σ H locs) (hl : lv_has ls 5 [(0, .ref (ad a0)), (2, .int l2), (3, .int l3), (4, .int l4)]) : W p l e (rmK 0 0) s m args below meth c H locs 0 0 (MQ below (cI D ay kM NM ad r0 σ) args s 0 0 (aN NM ad)) (F0 m 103 ls []) := by
  have k_a0 := okr_in ok_a0
  unfold F_X12_canDrum_103 at hf
  obtain ⟨v1, e_v1, hf⟩ := cL_some hf
  refine lv_iinc (v := v1) (lv' := [(4, .int v1), (0, .ref (ad a0)), (2, .int l2), (3, .int l3)]) G.hx G.hb (dcs_get dec_X12_canDrum_1 25 rfl) hl (k := 3) rfl (by rw [e_v1]; rfl) (by decide) rfl (fun ls hl => ?_)
  refine lv_goto (tgt := 44) G.hx G.hb (dcs_get dec_X12_canDrum_1 26 rfl) (by decide) ?_
  exact hb1 _ (Option.some.inj hf).symm _ _ _ w (lv_sub hl [1, 2, 3, 0] rfl)
set_option maxRecDepth 100000 in
set_option maxHeartbeats 4000000 in
theorem B_X12_canDrum_44b {H : Heap} {locs : List Loc} {ls : Array Slot} {r0 : Int32} {o : (Int32 × Int32 × Int32) ⊕ ((Int32 × Int32) ⊕ (Int32))} (a0 : Nat) (l2 : Int32) (l3 : Int32) (l4 : Int32) (σ : hSt) (G : Gx p m c cX12_canDrum 5 s args RX12 D ay NM ad (aN NM ad)) (hm : meth.sig.returnType = (some .boolean) ∧ meth.locks = false) (ok_a0 : okr kM NM 12 a0 = true) (hf : F_X12_canDrum_44b a0 l2 l3 l4 σ = some o) (hb0 : ∀ (v : Int32 × Int32), o = .inr (.inl v) → ∀ (H : Heap) (locs : List Loc) (ls : Array Slot), Wd D ay kM NM ad (aN NM ad) s σ H locs → lv_has ls 5 [(0, .ref (ad a0)), (2, .int v.1), (3, .int v.2)] → W p l e (rmK 0 0) s m args below meth c H locs 0 0 (MQ below (cI D ay kM NM ad r0 σ) args s 0 0 (aN NM ad)) (F0 m 31 ls [])) (hb1 : ∀ (v : Int32 × Int32 × Int32), o = .inl v → ∀ (H : Heap) (locs : List Loc) (ls : Array Slot), Wd D ay kM NM ad (aN NM ad) s σ H locs → lv_has ls 5 [(0, .ref (ad a0)), (2, .int v.1), (3, .int v.2.1), (4, .int v.2.2)] → W p l e (rmK 0 0) s m args below meth c H locs 0 0 (MQ below (cI D ay kM NM ad r0 σ) args s 0 0 (aN NM ad)) (F0 m 44 ls [])) (hr : ∀ x, o = .inr (.inr (x)) → x = r0) (w : Wd D ay kM NM ad (aN NM ad) s σ H locs) (hl : lv_has ls 5 [(0, .ref (ad a0)), (2, .int l2), (3, .int l3), (4, .int l4)]) : W p l e (rmK 0 0) s m args below meth c H locs 0 0 (MQ below (cI D ay kM NM ad r0 σ) args s 0 0 (aN NM ad)) (F0 m 44 ls []) := by
  have k_a0 := okr_in ok_a0
  unfold F_X12_canDrum_44b at hf
  refine lv_iload G.hx G.hb (dcs_get dec_X12_canDrum_0 27 rfl) (lv_at hl 3 rfl) ?_
  refine lv_aload_n G.hx G.hb (dcs_get dec_X12_canDrum_0 28 rfl) rfl (lv_at hl 0 rfl) ?_
  obtain ⟨z2, e_z2, ok_z2, hf⟩ := cR_some hf
  have k_z2 := okr_in ok_z2
  refine r_getr (k := 24) cls12 fi_12_24.1 fi_12_24.2 q_1032 G w k_a0.1 k_a0.2 e_z2 (dcs_get dec_X12_canDrum_0 29 rfl) ?_
  refine lv_aload_n G.hx G.hb (dcs_get dec_X12_canDrum_0 30 rfl) rfl (lv_at hl 0 rfl) ?_
  refine r_geti (k := 18) cls12 fi_12_18.1 fi_12_18.2 q_1026 G w k_a0.1 k_a0.2 (dcs_get dec_X12_canDrum_0 31 rfl) ?_
  obtain ⟨h3, hf⟩ := cG_some hf
  refine r_iald G w k_z2.1 k_z2.2 h3 (dcs_get dec_X12_canDrum_0 32 rfl) ?_
  refine lv_icmp_ge (tgt := 109) G.hx G.hb (dcs_get dec_X12_canDrum_0 33 rfl) (by decide) (fun hc => ?_) (fun hc => ?_)
  · rw [if_pos hc] at hf
    refine lv_goto (tgt := 31) G.hx G.hb (dcs_get dec_X12_canDrum_1 27 rfl) (by decide) ?_
    exact hb0 _ (Option.some.inj hf).symm _ _ _ w (lv_sub hl [0, 1, 2] rfl)
  · rw [if_neg hc] at hf
    refine lv_iload_n G.hx G.hb (dcs_get dec_X12_canDrum_0 34 rfl) rfl (lv_at hl 1 rfl) ?_
    refine lv_iload G.hx G.hb (dcs_get dec_X12_canDrum_0 35 rfl) (lv_at hl 3 rfl) ?_
    refine lv_ishr G.hx G.hb (dcs_get dec_X12_canDrum_0 36 rfl) ?_
    refine lv_iconst (v := (1 : Int32)) G.hx G.hb (dcs_get dec_X12_canDrum_0 37 rfl) (by decide) ?_
    refine lv_iand G.hx G.hb (dcs_get dec_X12_canDrum_0 38 rfl) ?_
    refine lv_if_ne (tgt := 70) G.hx G.hb (dcs_get dec_X12_canDrum_0 39 rfl) (by decide) (fun hc => ?_) (fun hc => ?_)
    · rw [if_neg hc] at hf
      refine lv_aload_n G.hx G.hb (dcs_get dec_X12_canDrum_1 1 rfl) rfl (lv_at hl 0 rfl) ?_
      obtain ⟨z4, e_z4, ok_z4, hf⟩ := cR_some hf
      have k_z4 := okr_in ok_z4
      refine r_getr (k := 52) cls12 fi_12_52.1 fi_12_52.2 q_1060 G w k_a0.1 k_a0.2 e_z4 (dcs_get dec_X12_canDrum_1 2 rfl) ?_
      refine lv_iload G.hx G.hb (dcs_get dec_X12_canDrum_1 3 rfl) (lv_at hl 3 rfl) ?_
      obtain ⟨h5, hf⟩ := cG_some hf
      refine r_iald G w k_z4.1 k_z4.2 h5 (dcs_get dec_X12_canDrum_1 4 rfl) ?_
      refine lv_iload_n G.hx G.hb (dcs_get dec_X12_canDrum_1 5 rfl) rfl (lv_at hl 1 rfl) ?_
      refine lv_iand G.hx G.hb (dcs_get dec_X12_canDrum_1 6 rfl) ?_
      refine lv_iconst (v := (1 : Int32)) G.hx G.hb (dcs_get dec_X12_canDrum_1 7 rfl) (by decide) ?_
      refine lv_iload G.hx G.hb (dcs_get dec_X12_canDrum_1 8 rfl) (lv_at hl 3 rfl) ?_
      refine lv_ishl G.hx G.hb (dcs_get dec_X12_canDrum_1 9 rfl) ?_
      refine lv_iconst (v := (-1 : Int32)) G.hx G.hb (dcs_get dec_X12_canDrum_1 10 rfl) (by decide) ?_
      refine lv_ixor G.hx G.hb (dcs_get dec_X12_canDrum_1 11 rfl) ?_
      refine lv_iand G.hx G.hb (dcs_get dec_X12_canDrum_1 12 rfl) ?_
      refine lv_if_eq (tgt := 92) G.hx G.hb (dcs_get dec_X12_canDrum_1 13 rfl) (by decide) (fun hc => ?_) (fun hc => ?_)
      · rw [if_pos hc] at hf
        refine lv_iload_n G.hx G.hb (dcs_get dec_X12_canDrum_1 15 rfl) rfl (lv_at hl 1 rfl) ?_
        refine lv_iconst (v := (1 : Int32)) G.hx G.hb (dcs_get dec_X12_canDrum_1 16 rfl) (by decide) ?_
        refine lv_iload G.hx G.hb (dcs_get dec_X12_canDrum_1 17 rfl) (lv_at hl 3 rfl) ?_
        refine lv_ishl G.hx G.hb (dcs_get dec_X12_canDrum_1 18 rfl) ?_
        refine lv_iconst (v := (-1 : Int32)) G.hx G.hb (dcs_get dec_X12_canDrum_1 19 rfl) (by decide) ?_
        refine lv_ixor G.hx G.hb (dcs_get dec_X12_canDrum_1 20 rfl) ?_
        refine lv_iand G.hx G.hb (dcs_get dec_X12_canDrum_1 21 rfl) ?_
        obtain ⟨v6, e_v6, hf⟩ := cL_some hf
        refine r_topi e_v6 ?_
        refine lv_istore_n (lv' := [(2, .int v6), (0, .ref (ad a0)), (3, .int l3), (4, .int l4)]) G.hx G.hb (dcs_get dec_X12_canDrum_1 22 rfl) rfl hl (by decide) rfl (fun ls hl => ?_)
        refine lv_iconst (v := (1 : Int32)) G.hx G.hb (dcs_get dec_X12_canDrum_1 23 rfl) (by decide) ?_
        refine lv_istore_n (lv' := [(3, .int (1 : Int32)), (2, .int v6), (0, .ref (ad a0)), (4, .int l4)]) G.hx G.hb (dcs_get dec_X12_canDrum_1 24 rfl) rfl hl (by decide) rfl (fun ls hl => ?_)
        exact B_X12_canDrum_103 a0 v6 (1 : Int32) l4 σ G hm ok_a0 hf hb0 hb1 hr w (lv_sub hl [2, 1, 0, 3] rfl)
      · rw [if_neg hc] at hf
        refine lv_goto (tgt := 103) G.hx G.hb (dcs_get dec_X12_canDrum_1 14 rfl) (by decide) ?_
        exact B_X12_canDrum_103 a0 l2 l3 l4 σ G hm ok_a0 hf hb0 hb1 hr w (lv_sub hl [0, 1, 2, 3] rfl)
    · rw [if_pos hc] at hf
      refine lv_goto (tgt := 103) G.hx G.hb (dcs_get dec_X12_canDrum_1 0 rfl) (by decide) ?_
      exact B_X12_canDrum_103 a0 l2 l3 l4 σ G hm ok_a0 hf hb0 hb1 hr w (lv_sub hl [0, 1, 2, 3] rfl)
set_option maxRecDepth 100000 in
set_option maxHeartbeats 4000000 in
theorem H_X12_canDrum_44 {r0 : Int32} {o : (Int32 × Int32) ⊕ (Int32)} (a0 : Nat) (σ : hSt) (G : Gx p m c cX12_canDrum 5 s args RX12 D ay NM ad (aN NM ad)) (hm : meth.sig.returnType = (some .boolean) ∧ meth.locks = false) (ok_a0 : okr kM NM 12 a0 = true) (hb0 : ∀ (v : Int32 × Int32), o = .inl v → ∀ (H : Heap) (locs : List Loc) (ls : Array Slot), Wd D ay kM NM ad (aN NM ad) s σ H locs → lv_has ls 5 [(0, .ref (ad a0)), (2, .int v.1), (3, .int v.2)] → W p l e (rmK 0 0) s m args below meth c H locs 0 0 (MQ below (cI D ay kM NM ad r0 σ) args s 0 0 (aN NM ad)) (F0 m 31 ls [])) (hr : ∀ x, o = .inr (x) → x = r0) : ∀ (k : Nat) (v : Int32 × Int32 × Int32), lp (S_X12_canDrum_44 a0 σ) k v = some o → ∀ (H : Heap) (locs : List Loc) (ls : Array Slot), Wd D ay kM NM ad (aN NM ad) s σ H locs → lv_has ls 5 [(0, .ref (ad a0)), (2, .int v.1), (3, .int v.2.1), (4, .int v.2.2)] → W p l e (rmK 0 0) s m args below meth c H locs 0 0 (MQ below (cI D ay kM NM ad r0 σ) args s 0 0 (aN NM ad)) (F0 m 44 ls []) := by
  intro k
  induction k with
  | zero => intro v hf; cases hf
  | succ k ih =>
    intro v hf H locs ls w hl
    obtain ⟨o1, h1, h2, h3⟩ := lp_some hf
    exact B_X12_canDrum_44b a0 v.1 v.2.1 v.2.2 σ G hm ok_a0 h1 (fun v' e => hb0 v' (h3 _ e).symm) (fun v' e => ih v' (h2 v' e)) (fun x e => hr x (h3 _ e).symm) w hl
set_option maxRecDepth 100000 in
set_option maxHeartbeats 4000000 in
theorem B_X12_canDrum_44 {H : Heap} {locs : List Loc} {ls : Array Slot} {r0 : Int32} {o : (Int32 × Int32) ⊕ (Int32)} (a0 : Nat) (l2 : Int32) (l3 : Int32) (l4 : Int32) (σ : hSt) (G : Gx p m c cX12_canDrum 5 s args RX12 D ay NM ad (aN NM ad)) (hm : meth.sig.returnType = (some .boolean) ∧ meth.locks = false) (ok_a0 : okr kM NM 12 a0 = true) (hf : F_X12_canDrum_44 a0 l2 l3 l4 σ = some o) (hb0 : ∀ (v : Int32 × Int32), o = .inl v → ∀ (H : Heap) (locs : List Loc) (ls : Array Slot), Wd D ay kM NM ad (aN NM ad) s σ H locs → lv_has ls 5 [(0, .ref (ad a0)), (2, .int v.1), (3, .int v.2)] → W p l e (rmK 0 0) s m args below meth c H locs 0 0 (MQ below (cI D ay kM NM ad r0 σ) args s 0 0 (aN NM ad)) (F0 m 31 ls [])) (hr : ∀ x, o = .inr (x) → x = r0) (w : Wd D ay kM NM ad (aN NM ad) s σ H locs) (hl : lv_has ls 5 [(0, .ref (ad a0)), (2, .int l2), (3, .int l3), (4, .int l4)]) : W p l e (rmK 0 0) s m args below meth c H locs 0 0 (MQ below (cI D ay kM NM ad r0 σ) args s 0 0 (aN NM ad)) (F0 m 44 ls []) := by
  unfold F_X12_canDrum_44 at hf
  exact H_X12_canDrum_44 a0 σ G hm ok_a0 hb0 hr fuel (l2, l3, l4) hf _ _ _ w hl
set_option maxRecDepth 100000 in
set_option maxHeartbeats 4000000 in
theorem B_X12_canDrum_121 {H : Heap} {locs : List Loc} {ls : Array Slot} {r0 : Int32} (s0 : Int32) (σ : hSt) (G : Gx p m c cX12_canDrum 5 s args RX12 D ay NM ad (aN NM ad)) (hm : meth.sig.returnType = (some .boolean) ∧ meth.locks = false)  (hf : F_X12_canDrum_121 s0 σ = some r0)  (w : Wd D ay kM NM ad (aN NM ad) s σ H locs) (hl : lv_has ls 5 []) : W p l e (rmK 0 0) s m args below meth c H locs 0 0 (MQ below (cI D ay kM NM ad r0 σ) args s 0 0 (aN NM ad)) (F0 m 121 ls [.int s0]) := by
  unfold F_X12_canDrum_121 at hf
  obtain ⟨h7, hf⟩ := cG_some hf
  have e9 := Option.some.inj hf
  exact r_zret (isB_nar h7) G w hm e9 rfl (dcs_get dec_X12_canDrum_1 33 rfl)
set_option maxRecDepth 100000 in
set_option maxHeartbeats 4000000 in
theorem B_X12_canDrum_112 {H : Heap} {locs : List Loc} {ls : Array Slot} {r0 : Int32} (l2 : Int32) (σ : hSt) (G : Gx p m c cX12_canDrum 5 s args RX12 D ay NM ad (aN NM ad)) (hm : meth.sig.returnType = (some .boolean) ∧ meth.locks = false)  (hf : F_X12_canDrum_112 l2 σ = some r0)  (w : Wd D ay kM NM ad (aN NM ad) s σ H locs) (hl : lv_has ls 5 [(2, .int l2)]) : W p l e (rmK 0 0) s m args below meth c H locs 0 0 (MQ below (cI D ay kM NM ad r0 σ) args s 0 0 (aN NM ad)) (F0 m 112 ls []) := by
  unfold F_X12_canDrum_112 at hf
  refine lv_iload_n G.hx G.hb (dcs_get dec_X12_canDrum_1 28 rfl) rfl (lv_at hl 0 rfl) ?_
  refine lv_if_ne (tgt := 120) G.hx G.hb (dcs_get dec_X12_canDrum_1 29 rfl) (by decide) (fun hc => ?_) (fun hc => ?_)
  · rw [if_neg hc] at hf
    refine lv_iconst (v := (0 : Int32)) G.hx G.hb (dcs_get dec_X12_canDrum_1 32 rfl) (by decide) ?_
    exact B_X12_canDrum_121 (0 : Int32) σ G hm  hf  w (lv_sub hl [] rfl)
  · rw [if_pos hc] at hf
    refine lv_iconst (v := (1 : Int32)) G.hx G.hb (dcs_get dec_X12_canDrum_1 30 rfl) (by decide) ?_
    refine lv_goto (tgt := 121) G.hx G.hb (dcs_get dec_X12_canDrum_1 31 rfl) (by decide) ?_
    exact B_X12_canDrum_121 (1 : Int32) σ G hm  hf  w (lv_sub hl [] rfl)
set_option maxRecDepth 100000 in
set_option maxHeartbeats 4000000 in
theorem B_X12_canDrum_31b {H : Heap} {locs : List Loc} {ls : Array Slot} {r0 : Int32} {o : (Int32 × Int32) ⊕ (Int32)} (a0 : Nat) (l2 : Int32) (l3 : Int32) (σ : hSt) (G : Gx p m c cX12_canDrum 5 s args RX12 D ay NM ad (aN NM ad)) (hm : meth.sig.returnType = (some .boolean) ∧ meth.locks = false) (ok_a0 : okr kM NM 12 a0 = true) (hf : F_X12_canDrum_31b a0 l2 l3 σ = some o) (hb0 : ∀ (v : Int32 × Int32), o = .inl v → ∀ (H : Heap) (locs : List Loc) (ls : Array Slot), Wd D ay kM NM ad (aN NM ad) s σ H locs → lv_has ls 5 [(0, .ref (ad a0)), (2, .int v.1), (3, .int v.2)] → W p l e (rmK 0 0) s m args below meth c H locs 0 0 (MQ below (cI D ay kM NM ad r0 σ) args s 0 0 (aN NM ad)) (F0 m 31 ls [])) (hr : ∀ x, o = .inr (x) → x = r0) (w : Wd D ay kM NM ad (aN NM ad) s σ H locs) (hl : lv_has ls 5 [(0, .ref (ad a0)), (2, .int l2), (3, .int l3)]) : W p l e (rmK 0 0) s m args below meth c H locs 0 0 (MQ below (cI D ay kM NM ad r0 σ) args s 0 0 (aN NM ad)) (F0 m 31 ls []) := by
  have k_a0 := okr_in ok_a0
  unfold F_X12_canDrum_31b at hf
  refine lv_iload_n G.hx G.hb (dcs_get dec_X12_canDrum_0 19 rfl) rfl (lv_at hl 1 rfl) ?_
  refine lv_if_eq (tgt := 112) G.hx G.hb (dcs_get dec_X12_canDrum_0 20 rfl) (by decide) (fun hc => ?_) (fun hc => ?_)
  · rw [if_pos hc] at hf
    obtain ⟨x9, h9, e9⟩ := map_some_inv hf
    subst e9
    have e8 := hr _ rfl
    rw [e8] at h9
    exact B_X12_canDrum_112 l2 σ G hm  h9 w (lv_sub hl [1] rfl)
  · rw [if_neg hc] at hf
    refine lv_iload_n G.hx G.hb (dcs_get dec_X12_canDrum_0 21 rfl) rfl (lv_at hl 2 rfl) ?_
    refine lv_if_eq (tgt := 112) G.hx G.hb (dcs_get dec_X12_canDrum_0 22 rfl) (by decide) (fun hc => ?_) (fun hc => ?_)
    · rw [if_pos hc] at hf
      obtain ⟨x9, h9, e9⟩ := map_some_inv hf
      subst e9
      have e8 := hr _ rfl
      rw [e8] at h9
      exact B_X12_canDrum_112 l2 σ G hm  h9 w (lv_sub hl [1] rfl)
    · rw [if_neg hc] at hf
      refine lv_iconst (v := (0 : Int32)) G.hx G.hb (dcs_get dec_X12_canDrum_0 23 rfl) (by decide) ?_
      refine lv_istore_n (lv' := [(3, .int (0 : Int32)), (0, .ref (ad a0)), (2, .int l2)]) G.hx G.hb (dcs_get dec_X12_canDrum_0 24 rfl) rfl hl (by decide) rfl (fun ls hl => ?_)
      refine lv_iconst (v := (0 : Int32)) G.hx G.hb (dcs_get dec_X12_canDrum_0 25 rfl) (by decide) ?_
      refine lv_istore (lv' := [(4, .int (0 : Int32)), (3, .int (0 : Int32)), (0, .ref (ad a0)), (2, .int l2)]) G.hx G.hb (dcs_get dec_X12_canDrum_0 26 rfl) hl (by decide) rfl (fun ls hl => ?_)
      exact B_X12_canDrum_44 a0 l2 (0 : Int32) (0 : Int32) σ G hm ok_a0 hf hb0 hr w (lv_sub hl [2, 3, 1, 0] rfl)
set_option maxRecDepth 100000 in
set_option maxHeartbeats 4000000 in
theorem H_X12_canDrum_31 {r0 : Int32} (a0 : Nat) (σ : hSt) (G : Gx p m c cX12_canDrum 5 s args RX12 D ay NM ad (aN NM ad)) (hm : meth.sig.returnType = (some .boolean) ∧ meth.locks = false) (ok_a0 : okr kM NM 12 a0 = true)  : ∀ (k : Nat) (v : Int32 × Int32), lp (S_X12_canDrum_31 a0 σ) k v = some r0 → ∀ (H : Heap) (locs : List Loc) (ls : Array Slot), Wd D ay kM NM ad (aN NM ad) s σ H locs → lv_has ls 5 [(0, .ref (ad a0)), (2, .int v.1), (3, .int v.2)] → W p l e (rmK 0 0) s m args below meth c H locs 0 0 (MQ below (cI D ay kM NM ad r0 σ) args s 0 0 (aN NM ad)) (F0 m 31 ls []) := by
  intro k
  induction k with
  | zero => intro v hf; cases hf
  | succ k ih =>
    intro v hf H locs ls w hl
    obtain ⟨o1, h1, h2, h3⟩ := lp_some hf
    exact B_X12_canDrum_31b a0 v.1 v.2 σ G hm ok_a0 h1  (fun v' e => ih v' (h2 v' e)) (fun x e => h3 x e) w hl
set_option maxRecDepth 100000 in
set_option maxHeartbeats 4000000 in
theorem B_X12_canDrum_31 {H : Heap} {locs : List Loc} {ls : Array Slot} {r0 : Int32} (a0 : Nat) (l2 : Int32) (l3 : Int32) (σ : hSt) (G : Gx p m c cX12_canDrum 5 s args RX12 D ay NM ad (aN NM ad)) (hm : meth.sig.returnType = (some .boolean) ∧ meth.locks = false) (ok_a0 : okr kM NM 12 a0 = true) (hf : F_X12_canDrum_31 a0 l2 l3 σ = some r0)  (w : Wd D ay kM NM ad (aN NM ad) s σ H locs) (hl : lv_has ls 5 [(0, .ref (ad a0)), (2, .int l2), (3, .int l3)]) : W p l e (rmK 0 0) s m args below meth c H locs 0 0 (MQ below (cI D ay kM NM ad r0 σ) args s 0 0 (aN NM ad)) (F0 m 31 ls []) := by
  unfold F_X12_canDrum_31 at hf
  exact H_X12_canDrum_31 a0 σ G hm ok_a0  fuel (l2, l3) hf _ _ _ w hl
set_option maxRecDepth 100000 in
set_option maxHeartbeats 4000000 in
theorem B_X12_canDrum_0 {H : Heap} {locs : List Loc} {ls : Array Slot} {r0 : Int32} (a0 : Nat) (l1 : Int32) (σ : hSt) (G : Gx p m c cX12_canDrum 5 s args RX12 D ay NM ad (aN NM ad)) (hm : meth.sig.returnType = (some .boolean) ∧ meth.locks = false) (ok_a0 : okr kM NM 12 a0 = true) (hf : F_X12_canDrum a0 l1 σ = some r0)  (w : Wd D ay kM NM ad (aN NM ad) s σ H locs) (hl : lv_has ls 5 [(0, .ref (ad a0)), (1, .int l1)]) : W p l e (rmK 0 0) s m args below meth c H locs 0 0 (MQ below (cI D ay kM NM ad r0 σ) args s 0 0 (aN NM ad)) (F0 m 0 ls []) := by
  have k_a0 := okr_in ok_a0
  unfold F_X12_canDrum at hf
  refine lv_aload_n G.hx G.hb (dcs_get dec_X12_canDrum_0 0 rfl) rfl (lv_at hl 0 rfl) ?_
  obtain ⟨z8, e_z8, ok_z8, hf⟩ := cR_some hf
  have k_z8 := okr_in ok_z8
  refine r_getr (k := 31) cls12 fi_12_31.1 fi_12_31.2 q_1039 G w k_a0.1 k_a0.2 e_z8 (dcs_get dec_X12_canDrum_0 1 rfl) ?_
  refine lv_aload_n G.hx G.hb (dcs_get dec_X12_canDrum_0 2 rfl) rfl (lv_at hl 0 rfl) ?_
  refine r_geti (k := 18) cls12 fi_12_18.1 fi_12_18.2 q_1026 G w k_a0.1 k_a0.2 (dcs_get dec_X12_canDrum_0 3 rfl) ?_
  obtain ⟨h9, hf⟩ := cG_some hf
  refine r_iald G w k_z8.1 k_z8.2 h9 (dcs_get dec_X12_canDrum_0 4 rfl) ?_
  refine lv_if_eq (tgt := 25) G.hx G.hb (dcs_get dec_X12_canDrum_0 5 rfl) (by decide) (fun hc => ?_) (fun hc => ?_)
  · rw [if_pos hc] at hf
    exact B_X12_canDrum_25  σ G hm  hf  w (lv_sub hl [] rfl)
  · rw [if_neg hc] at hf
    refine lv_aload_n G.hx G.hb (dcs_get dec_X12_canDrum_0 6 rfl) rfl (lv_at hl 0 rfl) ?_
    obtain ⟨z10, e_z10, ok_z10, hf⟩ := cR_some hf
    have k_z10 := okr_in ok_z10
    refine r_getr (k := 31) cls12 fi_12_31.1 fi_12_31.2 q_1039 G w k_a0.1 k_a0.2 e_z10 (dcs_get dec_X12_canDrum_0 7 rfl) ?_
    refine lv_aload_n G.hx G.hb (dcs_get dec_X12_canDrum_0 8 rfl) rfl (lv_at hl 0 rfl) ?_
    refine r_geti (k := 18) cls12 fi_12_18.1 fi_12_18.2 q_1026 G w k_a0.1 k_a0.2 (dcs_get dec_X12_canDrum_0 9 rfl) ?_
    obtain ⟨h11, hf⟩ := cG_some hf
    refine r_iald G w k_z10.1 k_z10.2 h11 (dcs_get dec_X12_canDrum_0 10 rfl) ?_
    refine lv_iconst (v := (3 : Int32)) G.hx G.hb (dcs_get dec_X12_canDrum_0 11 rfl) (by decide) ?_
    refine lv_icmp_ne (tgt := 27) G.hx G.hb (dcs_get dec_X12_canDrum_0 12 rfl) (by decide) (fun hc => ?_) (fun hc => ?_)
    · rw [if_neg hc] at hf
      refine lv_iload_n G.hx G.hb (dcs_get dec_X12_canDrum_0 15 rfl) rfl (lv_at hl 1 rfl) ?_
      refine lv_istore_n (lv' := [(2, .int l1), (0, .ref (ad a0)), (1, .int l1)]) G.hx G.hb (dcs_get dec_X12_canDrum_0 16 rfl) rfl hl (by decide) rfl (fun ls hl => ?_)
      refine lv_iconst (v := (1 : Int32)) G.hx G.hb (dcs_get dec_X12_canDrum_0 17 rfl) (by decide) ?_
      refine lv_istore_n (lv' := [(3, .int (1 : Int32)), (2, .int l1), (0, .ref (ad a0)), (1, .int l1)]) G.hx G.hb (dcs_get dec_X12_canDrum_0 18 rfl) rfl hl (by decide) rfl (fun ls hl => ?_)
      exact B_X12_canDrum_31 a0 l1 (1 : Int32) σ G hm ok_a0 hf  w (lv_sub hl [2, 1, 0] rfl)
    · rw [if_pos hc] at hf
      exact B_X12_canDrum_25  σ G hm  hf  w (lv_sub hl [] rfl)
end
set_option maxRecDepth 100000 in
set_option maxHeartbeats 4000000 in
theorem C_X12_canDrum {l : Launch} {D : va_G} {ay : Nat → ClassId} {ad : Nat → Nat} (hi : hInj NM ad) (a0 : Nat) (l1 : Int32) (σ : hSt) {r0 : Int32} (hf : F_X12_canDrum a0 l1 σ = some r0) (ok_a0 : okr kM NM 12 a0 = true) : hM l D ay kM NM ad yX12_canDrum cX12_canDrum 5 ((some .boolean)) (rmK 0 0) [.ref (ad a0), .int l1] σ (cI D ay kM NM ad r0 σ) := by
  refine hM_in (by decide) hi (Nat.le_of_ble_eq_true rfl) ?_
  intro p e s m below meth c G hm w ls hl
  exact B_X12_canDrum_0 a0 l1 σ G hm ok_a0 hf w (lv_sub hl [0, 1] rfl)

/-! HillDrumsModel.heardOf(I)I -/
def DL_X12_heardOf_0 : List (Nat × Instr × Nat) := [(0, .iload_n 1, 1), (1, .istore_n 2, 1), (2, .iconst 0, 1), (3, .istore_n 3, 1), (4, .iload_n 3, 1), (5, .aload_n 0, 1), (6, .getfield 49, 3), (9, .aload_n 0, 1), (10, .getfield 236, 3), (13, .iaload, 1), (14, .if_icmp .ge 27, 3), (17, .iload_n 1, 1), (18, .iload_n 3, 1), (19, .ishr, 1), (20, .iconst 1, 1), (21, .iand, 1), (22, .iconst 1, 1), (23, .if_icmp .ne 12, 3), (26, .iload_n 2, 1), (27, .aload_n 0, 1), (28, .getfield 122, 3), (31, .iload_n 3, 1), (32, .iaload, 1), (33, .ior, 1), (34, .istore_n 2, 1), (35, .iinc 3 1, 3), (38, .goto (-34), 3), (41, .iload_n 2, 1), (42, .ireturn, 1)]
set_option maxRecDepth 100000 in
theorem dec_X12_heardOf_0 : dcs cX12_heardOf DL_X12_heardOf_0 = true := by decide +kernel
theorem lb_X12_heardOf : lkB yX12_heardOf cX12_heardOf 4 ((some .int)) 1 := ⟨q_1503, q_14, ⟨by decide, by decide⟩, by decide +kernel⟩
theorem lv_X12_heardOf : lkV yX12_heardOf := ⟨q_1502, qs_117⟩
def F_X12_heardOf_35 (a0 : Nat) (l1 : Int32) (l2 : Int32) (l3 : Int32) (σ : hSt) : Option ((Int32 × Int32) ⊕ (Int32)) :=
cL (l3 + (1 : Int32)) fun v1 =>
some (.inl (l2, v1))
def F_X12_heardOf_4b (a0 : Nat) (l1 : Int32) (l2 : Int32) (l3 : Int32) (σ : hSt) : Option ((Int32 × Int32) ⊕ (Int32)) :=
cR (σ.2.2 a0 24) (okr kM NM 101) fun z2 =>
cG (inb (σ.1 a0 18) (kM z2).2) <|
if (σ.1 z2 (σ.1 a0 18).toNatClampNeg) ≤ l3 then (
some (.inr (l2))) else (
if ((l1 >>> (l3 &&& 31)) &&& (1 : Int32)) = (1 : Int32) then (
cR (σ.2.2 a0 52) (okr kM NM 101) fun z4 =>
cG (inb l3 (kM z4).2) <|
cL (l2 ||| (σ.1 z4 l3.toNatClampNeg)) fun v6 =>
F_X12_heardOf_35 a0 l1 v6 l3 σ) else (
F_X12_heardOf_35 a0 l1 l2 l3 σ))
def S_X12_heardOf_4 (a0 : Nat) (l1 : Int32) (σ : hSt) (v : Int32 × Int32) : Option ((Int32 × Int32) ⊕ (Int32)) := F_X12_heardOf_4b a0 l1 v.1 v.2 σ
def F_X12_heardOf_4 (a0 : Nat) (l1 : Int32) (l2 : Int32) (l3 : Int32) (σ : hSt) : Option (Int32) := lp (S_X12_heardOf_4 a0 l1 σ) fuel (l2, l3)
def F_X12_heardOf (a0 : Nat) (l1 : Int32) (σ : hSt) : Option (Int32) :=
F_X12_heardOf_4 a0 l1 l1 (0 : Int32) σ
section
variable {p : Program} {l : Launch} {e : Env} {s : State} {m : MethodId} {args : Array Value} {below : List Frame} {meth : Method} {c : Code} {D : va_G} {ay : Nat → ClassId} {ad : Nat → Nat}
set_option maxRecDepth 100000 in
set_option maxHeartbeats 4000000 in
theorem B_X12_heardOf_35 {H : Heap} {locs : List Loc} {ls : Array Slot} {r0 : Int32} {o : (Int32 × Int32) ⊕ (Int32)} (a0 : Nat) (l1 : Int32) (l2 : Int32) (l3 : Int32) (σ : hSt) (G : Gx p m c cX12_heardOf 4 s args RX12 D ay NM ad (aN NM ad)) (hm : meth.sig.returnType = (some .int) ∧ meth.locks = false) (ok_a0 : okr kM NM 12 a0 = true) (hf : F_X12_heardOf_35 a0 l1 l2 l3 σ = some o) (hb0 : ∀ (v : Int32 × Int32), o = .inl v → ∀ (H : Heap) (locs : List Loc) (ls : Array Slot), Wd D ay kM NM ad (aN NM ad) s σ H locs → lv_has ls 4 [(0, .ref (ad a0)), (1, .int l1), (2, .int v.1), (3, .int v.2)] → W p l e (rmK 0 0) s m args below meth c H locs 0 0 (MQ below (cI D ay kM NM ad r0 σ) args s 0 0 (aN NM ad)) (F0 m 4 ls [])) (hr : ∀ x, o = .inr (x) → x = r0) (w : Wd D ay kM NM ad (aN NM ad) s σ H locs) (hl : lv_has ls 4 [(0, .ref (ad a0)), (1, .int l1), (2, .int l2), (3, .int l3)]) : W p l e (rmK 0 0) s m args below meth c H locs 0 0 (MQ below (cI D ay kM NM ad r0 σ) args s 0 0 (aN NM ad)) (F0 m 35 ls []) := by
  have k_a0 := okr_in ok_a0
  unfold F_X12_heardOf_35 at hf
  obtain ⟨v1, e_v1, hf⟩ := cL_some hf
  refine lv_iinc (v := v1) (lv' := [(3, .int v1), (0, .ref (ad a0)), (1, .int l1), (2, .int l2)]) G.hx G.hb (dcs_get dec_X12_heardOf_0 25 rfl) hl (k := 3) rfl (by rw [e_v1]; rfl) (by decide) rfl (fun ls hl => ?_)
  refine lv_goto (tgt := 4) G.hx G.hb (dcs_get dec_X12_heardOf_0 26 rfl) (by decide) ?_
  exact hb0 _ (Option.some.inj hf).symm _ _ _ w (lv_sub hl [1, 2, 3, 0] rfl)
set_option maxRecDepth 100000 in
set_option maxHeartbeats 4000000 in
theorem B_X12_heardOf_4b {H : Heap} {locs : List Loc} {ls : Array Slot} {r0 : Int32} {o : (Int32 × Int32) ⊕ (Int32)} (a0 : Nat) (l1 : Int32) (l2 : Int32) (l3 : Int32) (σ : hSt) (G : Gx p m c cX12_heardOf 4 s args RX12 D ay NM ad (aN NM ad)) (hm : meth.sig.returnType = (some .int) ∧ meth.locks = false) (ok_a0 : okr kM NM 12 a0 = true) (hf : F_X12_heardOf_4b a0 l1 l2 l3 σ = some o) (hb0 : ∀ (v : Int32 × Int32), o = .inl v → ∀ (H : Heap) (locs : List Loc) (ls : Array Slot), Wd D ay kM NM ad (aN NM ad) s σ H locs → lv_has ls 4 [(0, .ref (ad a0)), (1, .int l1), (2, .int v.1), (3, .int v.2)] → W p l e (rmK 0 0) s m args below meth c H locs 0 0 (MQ below (cI D ay kM NM ad r0 σ) args s 0 0 (aN NM ad)) (F0 m 4 ls [])) (hr : ∀ x, o = .inr (x) → x = r0) (w : Wd D ay kM NM ad (aN NM ad) s σ H locs) (hl : lv_has ls 4 [(0, .ref (ad a0)), (1, .int l1), (2, .int l2), (3, .int l3)]) : W p l e (rmK 0 0) s m args below meth c H locs 0 0 (MQ below (cI D ay kM NM ad r0 σ) args s 0 0 (aN NM ad)) (F0 m 4 ls []) := by
  have k_a0 := okr_in ok_a0
  unfold F_X12_heardOf_4b at hf
  refine lv_iload_n G.hx G.hb (dcs_get dec_X12_heardOf_0 4 rfl) rfl (lv_at hl 3 rfl) ?_
  refine lv_aload_n G.hx G.hb (dcs_get dec_X12_heardOf_0 5 rfl) rfl (lv_at hl 0 rfl) ?_
  obtain ⟨z2, e_z2, ok_z2, hf⟩ := cR_some hf
  have k_z2 := okr_in ok_z2
  refine r_getr (k := 24) cls12 fi_12_24.1 fi_12_24.2 q_1032 G w k_a0.1 k_a0.2 e_z2 (dcs_get dec_X12_heardOf_0 6 rfl) ?_
  refine lv_aload_n G.hx G.hb (dcs_get dec_X12_heardOf_0 7 rfl) rfl (lv_at hl 0 rfl) ?_
  refine r_geti (k := 18) cls12 fi_12_18.1 fi_12_18.2 q_1026 G w k_a0.1 k_a0.2 (dcs_get dec_X12_heardOf_0 8 rfl) ?_
  obtain ⟨h3, hf⟩ := cG_some hf
  refine r_iald G w k_z2.1 k_z2.2 h3 (dcs_get dec_X12_heardOf_0 9 rfl) ?_
  refine lv_icmp_ge (tgt := 41) G.hx G.hb (dcs_get dec_X12_heardOf_0 10 rfl) (by decide) (fun hc => ?_) (fun hc => ?_)
  · rw [if_pos hc] at hf
    refine lv_iload_n G.hx G.hb (dcs_get dec_X12_heardOf_0 27 rfl) rfl (lv_at hl 2 rfl) ?_
    have e9 := hr _ (Option.some.inj hf).symm
    exact r_iret G w hm e9 rfl (dcs_get dec_X12_heardOf_0 28 rfl)
  · rw [if_neg hc] at hf
    refine lv_iload_n G.hx G.hb (dcs_get dec_X12_heardOf_0 11 rfl) rfl (lv_at hl 1 rfl) ?_
    refine lv_iload_n G.hx G.hb (dcs_get dec_X12_heardOf_0 12 rfl) rfl (lv_at hl 3 rfl) ?_
    refine lv_ishr G.hx G.hb (dcs_get dec_X12_heardOf_0 13 rfl) ?_
    refine lv_iconst (v := (1 : Int32)) G.hx G.hb (dcs_get dec_X12_heardOf_0 14 rfl) (by decide) ?_
    refine lv_iand G.hx G.hb (dcs_get dec_X12_heardOf_0 15 rfl) ?_
    refine lv_iconst (v := (1 : Int32)) G.hx G.hb (dcs_get dec_X12_heardOf_0 16 rfl) (by decide) ?_
    refine lv_icmp_ne (tgt := 35) G.hx G.hb (dcs_get dec_X12_heardOf_0 17 rfl) (by decide) (fun hc => ?_) (fun hc => ?_)
    · rw [if_neg hc] at hf
      exact B_X12_heardOf_35 a0 l1 l2 l3 σ G hm ok_a0 hf hb0 hr w (lv_sub hl [0, 1, 2, 3] rfl)
    · rw [if_pos hc] at hf
      refine lv_iload_n G.hx G.hb (dcs_get dec_X12_heardOf_0 18 rfl) rfl (lv_at hl 2 rfl) ?_
      refine lv_aload_n G.hx G.hb (dcs_get dec_X12_heardOf_0 19 rfl) rfl (lv_at hl 0 rfl) ?_
      obtain ⟨z4, e_z4, ok_z4, hf⟩ := cR_some hf
      have k_z4 := okr_in ok_z4
      refine r_getr (k := 52) cls12 fi_12_52.1 fi_12_52.2 q_1060 G w k_a0.1 k_a0.2 e_z4 (dcs_get dec_X12_heardOf_0 20 rfl) ?_
      refine lv_iload_n G.hx G.hb (dcs_get dec_X12_heardOf_0 21 rfl) rfl (lv_at hl 3 rfl) ?_
      obtain ⟨h5, hf⟩ := cG_some hf
      refine r_iald G w k_z4.1 k_z4.2 h5 (dcs_get dec_X12_heardOf_0 22 rfl) ?_
      refine lv_ior G.hx G.hb (dcs_get dec_X12_heardOf_0 23 rfl) ?_
      obtain ⟨v6, e_v6, hf⟩ := cL_some hf
      refine r_topi e_v6 ?_
      refine lv_istore_n (lv' := [(2, .int v6), (0, .ref (ad a0)), (1, .int l1), (3, .int l3)]) G.hx G.hb (dcs_get dec_X12_heardOf_0 24 rfl) rfl hl (by decide) rfl (fun ls hl => ?_)
      exact B_X12_heardOf_35 a0 l1 v6 l3 σ G hm ok_a0 hf hb0 hr w (lv_sub hl [1, 2, 0, 3] rfl)
set_option maxRecDepth 100000 in
set_option maxHeartbeats 4000000 in
theorem H_X12_heardOf_4 {r0 : Int32} (a0 : Nat) (l1 : Int32) (σ : hSt) (G : Gx p m c cX12_heardOf 4 s args RX12 D ay NM ad (aN NM ad)) (hm : meth.sig.returnType = (some .int) ∧ meth.locks = false) (ok_a0 : okr kM NM 12 a0 = true)  : ∀ (k : Nat) (v : Int32 × Int32), lp (S_X12_heardOf_4 a0 l1 σ) k v = some r0 → ∀ (H : Heap) (locs : List Loc) (ls : Array Slot), Wd D ay kM NM ad (aN NM ad) s σ H locs → lv_has ls 4 [(0, .ref (ad a0)), (1, .int l1), (2, .int v.1), (3, .int v.2)] → W p l e (rmK 0 0) s m args below meth c H locs 0 0 (MQ below (cI D ay kM NM ad r0 σ) args s 0 0 (aN NM ad)) (F0 m 4 ls []) := by
  intro k
  induction k with
  | zero => intro v hf; cases hf
  | succ k ih =>
    intro v hf H locs ls w hl
    obtain ⟨o1, h1, h2, h3⟩ := lp_some hf
    exact B_X12_heardOf_4b a0 l1 v.1 v.2 σ G hm ok_a0 h1  (fun v' e => ih v' (h2 v' e)) (fun x e => h3 x e) w hl
set_option maxRecDepth 100000 in
set_option maxHeartbeats 4000000 in
theorem B_X12_heardOf_4 {H : Heap} {locs : List Loc} {ls : Array Slot} {r0 : Int32} (a0 : Nat) (l1 : Int32) (l2 : Int32) (l3 : Int32) (σ : hSt) (G : Gx p m c cX12_heardOf 4 s args RX12 D ay NM ad (aN NM ad)) (hm : meth.sig.returnType = (some .int) ∧ meth.locks = false) (ok_a0 : okr kM NM 12 a0 = true) (hf : F_X12_heardOf_4 a0 l1 l2 l3 σ = some r0)  (w : Wd D ay kM NM ad (aN NM ad) s σ H locs) (hl : lv_has ls 4 [(0, .ref (ad a0)), (1, .int l1), (2, .int l2), (3, .int l3)]) : W p l e (rmK 0 0) s m args below meth c H locs 0 0 (MQ below (cI D ay kM NM ad r0 σ) args s 0 0 (aN NM ad)) (F0 m 4 ls []) := by
  unfold F_X12_heardOf_4 at hf
  exact H_X12_heardOf_4 a0 l1 σ G hm ok_a0  fuel (l2, l3) hf _ _ _ w hl
set_option maxRecDepth 100000 in
set_option maxHeartbeats 4000000 in
theorem B_X12_heardOf_0 {H : Heap} {locs : List Loc} {ls : Array Slot} {r0 : Int32} (a0 : Nat) (l1 : Int32) (σ : hSt) (G : Gx p m c cX12_heardOf 4 s args RX12 D ay NM ad (aN NM ad)) (hm : meth.sig.returnType = (some .int) ∧ meth.locks = false) (ok_a0 : okr kM NM 12 a0 = true) (hf : F_X12_heardOf a0 l1 σ = some r0)  (w : Wd D ay kM NM ad (aN NM ad) s σ H locs) (hl : lv_has ls 4 [(0, .ref (ad a0)), (1, .int l1)]) : W p l e (rmK 0 0) s m args below meth c H locs 0 0 (MQ below (cI D ay kM NM ad r0 σ) args s 0 0 (aN NM ad)) (F0 m 0 ls []) := by
  have k_a0 := okr_in ok_a0
  unfold F_X12_heardOf at hf
  refine lv_iload_n G.hx G.hb (dcs_get dec_X12_heardOf_0 0 rfl) rfl (lv_at hl 1 rfl) ?_
  refine lv_istore_n (lv' := [(2, .int l1), (0, .ref (ad a0)), (1, .int l1)]) G.hx G.hb (dcs_get dec_X12_heardOf_0 1 rfl) rfl hl (by decide) rfl (fun ls hl => ?_)
  refine lv_iconst (v := (0 : Int32)) G.hx G.hb (dcs_get dec_X12_heardOf_0 2 rfl) (by decide) ?_
  refine lv_istore_n (lv' := [(3, .int (0 : Int32)), (2, .int l1), (0, .ref (ad a0)), (1, .int l1)]) G.hx G.hb (dcs_get dec_X12_heardOf_0 3 rfl) rfl hl (by decide) rfl (fun ls hl => ?_)
  exact B_X12_heardOf_4 a0 l1 l1 (0 : Int32) σ G hm ok_a0 hf  w (lv_sub hl [2, 3, 1, 0] rfl)
end
set_option maxRecDepth 100000 in
set_option maxHeartbeats 4000000 in
theorem C_X12_heardOf {l : Launch} {D : va_G} {ay : Nat → ClassId} {ad : Nat → Nat} (hi : hInj NM ad) (a0 : Nat) (l1 : Int32) (σ : hSt) {r0 : Int32} (hf : F_X12_heardOf a0 l1 σ = some r0) (ok_a0 : okr kM NM 12 a0 = true) : hM l D ay kM NM ad yX12_heardOf cX12_heardOf 4 ((some .int)) (rmK 0 0) [.ref (ad a0), .int l1] σ (cI D ay kM NM ad r0 σ) := by
  refine hM_in (by decide) hi (Nat.le_of_ble_eq_true rfl) ?_
  intro p e s m below meth c G hm w ls hl
  exact B_X12_heardOf_0 a0 l1 σ G hm ok_a0 hf w (lv_sub hl [0, 1] rfl)

/-! HillDrumsModel.startsPlan(I)V -/
def DL_X12_startsPlan_0 : List (Nat × Instr × Nat) := [(0, .iconst 0, 1), (1, .istore_n 2, 1), (2, .iconst 0, 1), (3, .istore_n 3, 1), (4, .iload_n 3, 1), (5, .aload_n 0, 1), (6, .getfield 49, 3), (9, .aload_n 0, 1), (10, .getfield 236, 3), (13, .iaload, 1), (14, .if_icmp .ge 29, 3), (17, .aload_n 0, 1), (18, .getfield 125, 3), (21, .iconst 4, 1), (22, .iload_n 3, 1), (23, .imul, 1), (24, .iload_n 1, 1), (25, .iadd, 1), (26, .iaload, 1), (27, .iconst 1, 1), (28, .if_icmp .ne 9, 3), (31, .iload_n 2, 1), (32, .iconst 1, 1), (33, .iload_n 3, 1), (34, .ishl, 1), (35, .ior, 1), (36, .istore_n 2, 1), (37, .iinc 3 1, 3), (40, .goto (-36), 3), (43, .iconst 0, 1), (44, .istore_n 3, 1), (45, .iload_n 3, 1), (46, .bipush 64, 2), (48, .if_icmp .ge 16, 3), (51, .aload_n 0, 1), (52, .getfield 134, 3), (55, .iload_n 3, 1), (56, .iconst (-1), 1), (57, .iastore, 1), (58, .iinc 3 1, 3)]
set_option maxRecDepth 100000 in
theorem dec_X12_startsPlan_0 : dcs cX12_startsPlan DL_X12_startsPlan_0 = true := by decide +kernel
def DL_X12_startsPlan_1 : List (Nat × Instr × Nat) := [(61, .goto (-16), 3), (64, .aload_n 0, 1), (65, .getfield 134, 3), (68, .iload_n 2, 1), (69, .iconst 0, 1), (70, .iastore, 1), (71, .return_, 1)]
set_option maxRecDepth 100000 in
theorem dec_X12_startsPlan_1 : dcs cX12_startsPlan DL_X12_startsPlan_1 = true := by decide +kernel
theorem lb_X12_startsPlan : lkB yX12_startsPlan cX12_startsPlan 4 (none) 1 := ⟨q_1487, q_14, ⟨by decide, by decide⟩, by decide +kernel⟩
theorem lv_X12_startsPlan : lkV yX12_startsPlan := ⟨q_1486, qs_113⟩
def F_X12_startsPlan_37 (a0 : Nat) (l1 : Int32) (l2 : Int32) (l3 : Int32) (σ : hSt) : Option ((Int32 × Int32) ⊕ (hSt)) :=
cL (l3 + (1 : Int32)) fun v1 =>
some (.inl (l2, v1))
def F_X12_startsPlan_45b (a0 : Nat) (l2 : Int32) (l3 : Int32) (σ : hSt) : Option ((Int32 × hSt) ⊕ (hSt)) :=
if (64 : Int32) ≤ l3 then (
cR (σ.2.2 a0 59) (okr kM NM 101) fun z2 =>
cG (inb l2 (kM z2).2) <|
cL (uI σ z2 l2.toNatClampNeg (0 : Int32)) fun σ4 =>
some (.inr (σ4))) else (
cR (σ.2.2 a0 59) (okr kM NM 101) fun z5 =>
cG (inb l3 (kM z5).2) <|
cL (uI σ z5 l3.toNatClampNeg (-1 : Int32)) fun σ7 =>
cL (l3 + (1 : Int32)) fun v8 =>
some (.inl (v8, σ7)))
def S_X12_startsPlan_45 (a0 : Nat) (l2 : Int32) (v : Int32 × hSt) : Option ((Int32 × hSt) ⊕ (hSt)) := F_X12_startsPlan_45b a0 l2 v.1 v.2
def F_X12_startsPlan_45 (a0 : Nat) (l2 : Int32) (l3 : Int32) (σ : hSt) : Option (hSt) := lp (S_X12_startsPlan_45 a0 l2) fuel (l3, σ)
def F_X12_startsPlan_4b (a0 : Nat) (l1 : Int32) (l2 : Int32) (l3 : Int32) (σ : hSt) : Option ((Int32 × Int32) ⊕ (hSt)) :=
cR (σ.2.2 a0 24) (okr kM NM 101) fun z9 =>
cG (inb (σ.1 a0 18) (kM z9).2) <|
if (σ.1 z9 (σ.1 a0 18).toNatClampNeg) ≤ l3 then (
(F_X12_startsPlan_45 a0 l2 (0 : Int32) σ).map (fun x => .inr (x))) else (
cR (σ.2.2 a0 53) (okr kM NM 101) fun z11 =>
cG (inb (((4 : Int32) * l3) + l1) (kM z11).2) <|
if (σ.1 z11 (((4 : Int32) * l3) + l1).toNatClampNeg) = (1 : Int32) then (
cL (l2 ||| ((1 : Int32) <<< (l3 &&& 31))) fun v13 =>
F_X12_startsPlan_37 a0 l1 v13 l3 σ) else (
F_X12_startsPlan_37 a0 l1 l2 l3 σ))
def S_X12_startsPlan_4 (a0 : Nat) (l1 : Int32) (σ : hSt) (v : Int32 × Int32) : Option ((Int32 × Int32) ⊕ (hSt)) := F_X12_startsPlan_4b a0 l1 v.1 v.2 σ
def F_X12_startsPlan_4 (a0 : Nat) (l1 : Int32) (l2 : Int32) (l3 : Int32) (σ : hSt) : Option (hSt) := lp (S_X12_startsPlan_4 a0 l1 σ) fuel (l2, l3)
def F_X12_startsPlan (a0 : Nat) (l1 : Int32) (σ : hSt) : Option (hSt) :=
F_X12_startsPlan_4 a0 l1 (0 : Int32) (0 : Int32) σ
section
variable {p : Program} {l : Launch} {e : Env} {s : State} {m : MethodId} {args : Array Value} {below : List Frame} {meth : Method} {c : Code} {D : va_G} {ay : Nat → ClassId} {ad : Nat → Nat}
set_option maxRecDepth 100000 in
set_option maxHeartbeats 4000000 in
theorem B_X12_startsPlan_37 {H : Heap} {locs : List Loc} {ls : Array Slot} {σ0 : hSt} {o : (Int32 × Int32) ⊕ (hSt)} (a0 : Nat) (l1 : Int32) (l2 : Int32) (l3 : Int32) (σ : hSt) (G : Gx p m c cX12_startsPlan 4 s args RX12 D ay NM ad (aN NM ad)) (hm : meth.sig.returnType = none ∧ meth.locks = false) (ok_a0 : okr kM NM 12 a0 = true) (hf : F_X12_startsPlan_37 a0 l1 l2 l3 σ = some o) (hb0 : ∀ (v : Int32 × Int32), o = .inl v → ∀ (H : Heap) (locs : List Loc) (ls : Array Slot), Wd D ay kM NM ad (aN NM ad) s σ H locs → lv_has ls 4 [(0, .ref (ad a0)), (1, .int l1), (2, .int v.1), (3, .int v.2)] → W p l e (rmK 0 0) s m args below meth c H locs 0 0 (MQ below (cV D ay kM NM ad σ0) args s 0 0 (aN NM ad)) (F0 m 4 ls [])) (hr : ∀ x, o = .inr (x) → x = σ0) (w : Wd D ay kM NM ad (aN NM ad) s σ H locs) (hl : lv_has ls 4 [(0, .ref (ad a0)), (1, .int l1), (2, .int l2), (3, .int l3)]) : W p l e (rmK 0 0) s m args below meth c H locs 0 0 (MQ below (cV D ay kM NM ad σ0) args s 0 0 (aN NM ad)) (F0 m 37 ls []) := by
  have k_a0 := okr_in ok_a0
  unfold F_X12_startsPlan_37 at hf
  obtain ⟨v1, e_v1, hf⟩ := cL_some hf
  refine lv_iinc (v := v1) (lv' := [(3, .int v1), (0, .ref (ad a0)), (1, .int l1), (2, .int l2)]) G.hx G.hb (dcs_get dec_X12_startsPlan_0 27 rfl) hl (k := 3) rfl (by rw [e_v1]; rfl) (by decide) rfl (fun ls hl => ?_)
  refine lv_goto (tgt := 4) G.hx G.hb (dcs_get dec_X12_startsPlan_0 28 rfl) (by decide) ?_
  exact hb0 _ (Option.some.inj hf).symm _ _ _ w (lv_sub hl [1, 2, 3, 0] rfl)
set_option maxRecDepth 100000 in
set_option maxHeartbeats 4000000 in
theorem B_X12_startsPlan_45b {H : Heap} {locs : List Loc} {ls : Array Slot} {σ0 : hSt} {o : (Int32 × hSt) ⊕ (hSt)} (a0 : Nat) (l2 : Int32) (l3 : Int32) (σ : hSt) (G : Gx p m c cX12_startsPlan 4 s args RX12 D ay NM ad (aN NM ad)) (hm : meth.sig.returnType = none ∧ meth.locks = false) (ok_a0 : okr kM NM 12 a0 = true) (hf : F_X12_startsPlan_45b a0 l2 l3 σ = some o) (hb0 : ∀ (v : Int32 × hSt), o = .inl v → ∀ (H : Heap) (locs : List Loc) (ls : Array Slot), Wd D ay kM NM ad (aN NM ad) s v.2 H locs → lv_has ls 4 [(0, .ref (ad a0)), (2, .int l2), (3, .int v.1)] → W p l e (rmK 0 0) s m args below meth c H locs 0 0 (MQ below (cV D ay kM NM ad σ0) args s 0 0 (aN NM ad)) (F0 m 45 ls [])) (hr : ∀ x, o = .inr (x) → x = σ0) (w : Wd D ay kM NM ad (aN NM ad) s σ H locs) (hl : lv_has ls 4 [(0, .ref (ad a0)), (2, .int l2), (3, .int l3)]) : W p l e (rmK 0 0) s m args below meth c H locs 0 0 (MQ below (cV D ay kM NM ad σ0) args s 0 0 (aN NM ad)) (F0 m 45 ls []) := by
  have k_a0 := okr_in ok_a0
  unfold F_X12_startsPlan_45b at hf
  refine lv_iload_n G.hx G.hb (dcs_get dec_X12_startsPlan_0 31 rfl) rfl (lv_at hl 2 rfl) ?_
  refine lv_bipush (v := (64 : Int32)) G.hx G.hb (dcs_get dec_X12_startsPlan_0 32 rfl) (by decide) ?_
  refine lv_icmp_ge (tgt := 64) G.hx G.hb (dcs_get dec_X12_startsPlan_0 33 rfl) (by decide) (fun hc => ?_) (fun hc => ?_)
  · rw [if_pos hc] at hf
    refine lv_aload_n G.hx G.hb (dcs_get dec_X12_startsPlan_1 1 rfl) rfl (lv_at hl 0 rfl) ?_
    obtain ⟨z2, e_z2, ok_z2, hf⟩ := cR_some hf
    have k_z2 := okr_in ok_z2
    refine r_getr (k := 59) cls12 fi_12_59.1 fi_12_59.2 q_1067 G w k_a0.1 k_a0.2 e_z2 (dcs_get dec_X12_startsPlan_1 2 rfl) ?_
    refine lv_iload_n G.hx G.hb (dcs_get dec_X12_startsPlan_1 3 rfl) rfl (lv_at hl 1 rfl) ?_
    refine lv_iconst (v := (0 : Int32)) G.hx G.hb (dcs_get dec_X12_startsPlan_1 4 rfl) (by decide) ?_
    obtain ⟨h3, hf⟩ := cG_some hf
    obtain ⟨σ4, e_σ4, hf⟩ := cL_some hf
    refine r_iast G w k_z2.1 k_z2.2 h3 (dcs_get dec_X12_startsPlan_1 5 rfl) (fun H locs w => ?_)
    have w := Wd.nm e_σ4 w
    have e9 := hr _ (Option.some.inj hf).symm
    exact r_vret G w hm e9 (dcs_get dec_X12_startsPlan_1 6 rfl)
  · rw [if_neg hc] at hf
    refine lv_aload_n G.hx G.hb (dcs_get dec_X12_startsPlan_0 34 rfl) rfl (lv_at hl 0 rfl) ?_
    obtain ⟨z5, e_z5, ok_z5, hf⟩ := cR_some hf
    have k_z5 := okr_in ok_z5
    refine r_getr (k := 59) cls12 fi_12_59.1 fi_12_59.2 q_1067 G w k_a0.1 k_a0.2 e_z5 (dcs_get dec_X12_startsPlan_0 35 rfl) ?_
    refine lv_iload_n G.hx G.hb (dcs_get dec_X12_startsPlan_0 36 rfl) rfl (lv_at hl 2 rfl) ?_
    refine lv_iconst (v := (-1 : Int32)) G.hx G.hb (dcs_get dec_X12_startsPlan_0 37 rfl) (by decide) ?_
    obtain ⟨h6, hf⟩ := cG_some hf
    obtain ⟨σ7, e_σ7, hf⟩ := cL_some hf
    refine r_iast G w k_z5.1 k_z5.2 h6 (dcs_get dec_X12_startsPlan_0 38 rfl) (fun H locs w => ?_)
    have w := Wd.nm e_σ7 w
    obtain ⟨v8, e_v8, hf⟩ := cL_some hf
    refine lv_iinc (v := v8) (lv' := [(3, .int v8), (0, .ref (ad a0)), (2, .int l2)]) G.hx G.hb (dcs_get dec_X12_startsPlan_0 39 rfl) hl (k := 2) rfl (by rw [e_v8]; rfl) (by decide) rfl (fun ls hl => ?_)
    refine lv_goto (tgt := 45) G.hx G.hb (dcs_get dec_X12_startsPlan_1 0 rfl) (by decide) ?_
    exact hb0 _ (Option.some.inj hf).symm _ _ _ w (lv_sub hl [1, 2, 0] rfl)
set_option maxRecDepth 100000 in
set_option maxHeartbeats 4000000 in
theorem H_X12_startsPlan_45 {σ0 : hSt} (a0 : Nat) (l2 : Int32) (G : Gx p m c cX12_startsPlan 4 s args RX12 D ay NM ad (aN NM ad)) (hm : meth.sig.returnType = none ∧ meth.locks = false) (ok_a0 : okr kM NM 12 a0 = true)  : ∀ (k : Nat) (v : Int32 × hSt), lp (S_X12_startsPlan_45 a0 l2) k v = some σ0 → ∀ (H : Heap) (locs : List Loc) (ls : Array Slot), Wd D ay kM NM ad (aN NM ad) s v.2 H locs → lv_has ls 4 [(0, .ref (ad a0)), (2, .int l2), (3, .int v.1)] → W p l e (rmK 0 0) s m args below meth c H locs 0 0 (MQ below (cV D ay kM NM ad σ0) args s 0 0 (aN NM ad)) (F0 m 45 ls []) := by
  intro k
  induction k with
  | zero => intro v hf; cases hf
  | succ k ih =>
    intro v hf H locs ls w hl
    obtain ⟨o1, h1, h2, h3⟩ := lp_some hf
    exact B_X12_startsPlan_45b a0 l2 v.1 v.2 G hm ok_a0 h1  (fun v' e => ih v' (h2 v' e)) (fun x e => h3 x e) w hl
set_option maxRecDepth 100000 in
set_option maxHeartbeats 4000000 in
theorem B_X12_startsPlan_45 {H : Heap} {locs : List Loc} {ls : Array Slot} {σ0 : hSt} (a0 : Nat) (l2 : Int32) (l3 : Int32) (σ : hSt) (G : Gx p m c cX12_startsPlan 4 s args RX12 D ay NM ad (aN NM ad)) (hm : meth.sig.returnType = none ∧ meth.locks = false) (ok_a0 : okr kM NM 12 a0 = true) (hf : F_X12_startsPlan_45 a0 l2 l3 σ = some σ0)  (w : Wd D ay kM NM ad (aN NM ad) s σ H locs) (hl : lv_has ls 4 [(0, .ref (ad a0)), (2, .int l2), (3, .int l3)]) : W p l e (rmK 0 0) s m args below meth c H locs 0 0 (MQ below (cV D ay kM NM ad σ0) args s 0 0 (aN NM ad)) (F0 m 45 ls []) := by
  unfold F_X12_startsPlan_45 at hf
  exact H_X12_startsPlan_45 a0 l2  G hm ok_a0  fuel (l3, σ) hf _ _ _ w hl
set_option maxRecDepth 100000 in
set_option maxHeartbeats 4000000 in
theorem B_X12_startsPlan_4b {H : Heap} {locs : List Loc} {ls : Array Slot} {σ0 : hSt} {o : (Int32 × Int32) ⊕ (hSt)} (a0 : Nat) (l1 : Int32) (l2 : Int32) (l3 : Int32) (σ : hSt) (G : Gx p m c cX12_startsPlan 4 s args RX12 D ay NM ad (aN NM ad)) (hm : meth.sig.returnType = none ∧ meth.locks = false) (ok_a0 : okr kM NM 12 a0 = true) (hf : F_X12_startsPlan_4b a0 l1 l2 l3 σ = some o) (hb0 : ∀ (v : Int32 × Int32), o = .inl v → ∀ (H : Heap) (locs : List Loc) (ls : Array Slot), Wd D ay kM NM ad (aN NM ad) s σ H locs → lv_has ls 4 [(0, .ref (ad a0)), (1, .int l1), (2, .int v.1), (3, .int v.2)] → W p l e (rmK 0 0) s m args below meth c H locs 0 0 (MQ below (cV D ay kM NM ad σ0) args s 0 0 (aN NM ad)) (F0 m 4 ls [])) (hr : ∀ x, o = .inr (x) → x = σ0) (w : Wd D ay kM NM ad (aN NM ad) s σ H locs) (hl : lv_has ls 4 [(0, .ref (ad a0)), (1, .int l1), (2, .int l2), (3, .int l3)]) : W p l e (rmK 0 0) s m args below meth c H locs 0 0 (MQ below (cV D ay kM NM ad σ0) args s 0 0 (aN NM ad)) (F0 m 4 ls []) := by
  have k_a0 := okr_in ok_a0
  unfold F_X12_startsPlan_4b at hf
  refine lv_iload_n G.hx G.hb (dcs_get dec_X12_startsPlan_0 4 rfl) rfl (lv_at hl 3 rfl) ?_
  refine lv_aload_n G.hx G.hb (dcs_get dec_X12_startsPlan_0 5 rfl) rfl (lv_at hl 0 rfl) ?_
  obtain ⟨z9, e_z9, ok_z9, hf⟩ := cR_some hf
  have k_z9 := okr_in ok_z9
  refine r_getr (k := 24) cls12 fi_12_24.1 fi_12_24.2 q_1032 G w k_a0.1 k_a0.2 e_z9 (dcs_get dec_X12_startsPlan_0 6 rfl) ?_
  refine lv_aload_n G.hx G.hb (dcs_get dec_X12_startsPlan_0 7 rfl) rfl (lv_at hl 0 rfl) ?_
  refine r_geti (k := 18) cls12 fi_12_18.1 fi_12_18.2 q_1026 G w k_a0.1 k_a0.2 (dcs_get dec_X12_startsPlan_0 8 rfl) ?_
  obtain ⟨h10, hf⟩ := cG_some hf
  refine r_iald G w k_z9.1 k_z9.2 h10 (dcs_get dec_X12_startsPlan_0 9 rfl) ?_
  refine lv_icmp_ge (tgt := 43) G.hx G.hb (dcs_get dec_X12_startsPlan_0 10 rfl) (by decide) (fun hc => ?_) (fun hc => ?_)
  · rw [if_pos hc] at hf
    refine lv_iconst (v := (0 : Int32)) G.hx G.hb (dcs_get dec_X12_startsPlan_0 29 rfl) (by decide) ?_
    refine lv_istore_n (lv' := [(3, .int (0 : Int32)), (0, .ref (ad a0)), (1, .int l1), (2, .int l2)]) G.hx G.hb (dcs_get dec_X12_startsPlan_0 30 rfl) rfl hl (by decide) rfl (fun ls hl => ?_)
    obtain ⟨x9, h9, e9⟩ := map_some_inv hf
    subst e9
    have e8 := hr _ rfl
    rw [e8] at h9
    exact B_X12_startsPlan_45 a0 l2 (0 : Int32) σ G hm ok_a0 h9 w (lv_sub hl [1, 3, 0] rfl)
  · rw [if_neg hc] at hf
    refine lv_aload_n G.hx G.hb (dcs_get dec_X12_startsPlan_0 11 rfl) rfl (lv_at hl 0 rfl) ?_
    obtain ⟨z11, e_z11, ok_z11, hf⟩ := cR_some hf
    have k_z11 := okr_in ok_z11
    refine r_getr (k := 53) cls12 fi_12_53.1 fi_12_53.2 q_1061 G w k_a0.1 k_a0.2 e_z11 (dcs_get dec_X12_startsPlan_0 12 rfl) ?_
    refine lv_iconst (v := (4 : Int32)) G.hx G.hb (dcs_get dec_X12_startsPlan_0 13 rfl) (by decide) ?_
    refine lv_iload_n G.hx G.hb (dcs_get dec_X12_startsPlan_0 14 rfl) rfl (lv_at hl 3 rfl) ?_
    refine lv_imul G.hx G.hb (dcs_get dec_X12_startsPlan_0 15 rfl) ?_
    refine lv_iload_n G.hx G.hb (dcs_get dec_X12_startsPlan_0 16 rfl) rfl (lv_at hl 1 rfl) ?_
    refine lv_iadd G.hx G.hb (dcs_get dec_X12_startsPlan_0 17 rfl) ?_
    obtain ⟨h12, hf⟩ := cG_some hf
    refine r_iald G w k_z11.1 k_z11.2 h12 (dcs_get dec_X12_startsPlan_0 18 rfl) ?_
    refine lv_iconst (v := (1 : Int32)) G.hx G.hb (dcs_get dec_X12_startsPlan_0 19 rfl) (by decide) ?_
    refine lv_icmp_ne (tgt := 37) G.hx G.hb (dcs_get dec_X12_startsPlan_0 20 rfl) (by decide) (fun hc => ?_) (fun hc => ?_)
    · rw [if_neg hc] at hf
      exact B_X12_startsPlan_37 a0 l1 l2 l3 σ G hm ok_a0 hf hb0 hr w (lv_sub hl [0, 1, 2, 3] rfl)
    · rw [if_pos hc] at hf
      refine lv_iload_n G.hx G.hb (dcs_get dec_X12_startsPlan_0 21 rfl) rfl (lv_at hl 2 rfl) ?_
      refine lv_iconst (v := (1 : Int32)) G.hx G.hb (dcs_get dec_X12_startsPlan_0 22 rfl) (by decide) ?_
      refine lv_iload_n G.hx G.hb (dcs_get dec_X12_startsPlan_0 23 rfl) rfl (lv_at hl 3 rfl) ?_
      refine lv_ishl G.hx G.hb (dcs_get dec_X12_startsPlan_0 24 rfl) ?_
      refine lv_ior G.hx G.hb (dcs_get dec_X12_startsPlan_0 25 rfl) ?_
      obtain ⟨v13, e_v13, hf⟩ := cL_some hf
      refine r_topi e_v13 ?_
      refine lv_istore_n (lv' := [(2, .int v13), (0, .ref (ad a0)), (1, .int l1), (3, .int l3)]) G.hx G.hb (dcs_get dec_X12_startsPlan_0 26 rfl) rfl hl (by decide) rfl (fun ls hl => ?_)
      exact B_X12_startsPlan_37 a0 l1 v13 l3 σ G hm ok_a0 hf hb0 hr w (lv_sub hl [1, 2, 0, 3] rfl)
set_option maxRecDepth 100000 in
set_option maxHeartbeats 4000000 in
theorem H_X12_startsPlan_4 {σ0 : hSt} (a0 : Nat) (l1 : Int32) (σ : hSt) (G : Gx p m c cX12_startsPlan 4 s args RX12 D ay NM ad (aN NM ad)) (hm : meth.sig.returnType = none ∧ meth.locks = false) (ok_a0 : okr kM NM 12 a0 = true)  : ∀ (k : Nat) (v : Int32 × Int32), lp (S_X12_startsPlan_4 a0 l1 σ) k v = some σ0 → ∀ (H : Heap) (locs : List Loc) (ls : Array Slot), Wd D ay kM NM ad (aN NM ad) s σ H locs → lv_has ls 4 [(0, .ref (ad a0)), (1, .int l1), (2, .int v.1), (3, .int v.2)] → W p l e (rmK 0 0) s m args below meth c H locs 0 0 (MQ below (cV D ay kM NM ad σ0) args s 0 0 (aN NM ad)) (F0 m 4 ls []) := by
  intro k
  induction k with
  | zero => intro v hf; cases hf
  | succ k ih =>
    intro v hf H locs ls w hl
    obtain ⟨o1, h1, h2, h3⟩ := lp_some hf
    exact B_X12_startsPlan_4b a0 l1 v.1 v.2 σ G hm ok_a0 h1  (fun v' e => ih v' (h2 v' e)) (fun x e => h3 x e) w hl
set_option maxRecDepth 100000 in
set_option maxHeartbeats 4000000 in
theorem B_X12_startsPlan_4 {H : Heap} {locs : List Loc} {ls : Array Slot} {σ0 : hSt} (a0 : Nat) (l1 : Int32) (l2 : Int32) (l3 : Int32) (σ : hSt) (G : Gx p m c cX12_startsPlan 4 s args RX12 D ay NM ad (aN NM ad)) (hm : meth.sig.returnType = none ∧ meth.locks = false) (ok_a0 : okr kM NM 12 a0 = true) (hf : F_X12_startsPlan_4 a0 l1 l2 l3 σ = some σ0)  (w : Wd D ay kM NM ad (aN NM ad) s σ H locs) (hl : lv_has ls 4 [(0, .ref (ad a0)), (1, .int l1), (2, .int l2), (3, .int l3)]) : W p l e (rmK 0 0) s m args below meth c H locs 0 0 (MQ below (cV D ay kM NM ad σ0) args s 0 0 (aN NM ad)) (F0 m 4 ls []) := by
  unfold F_X12_startsPlan_4 at hf
  exact H_X12_startsPlan_4 a0 l1 σ G hm ok_a0  fuel (l2, l3) hf _ _ _ w hl
set_option maxRecDepth 100000 in
set_option maxHeartbeats 4000000 in
theorem B_X12_startsPlan_0 {H : Heap} {locs : List Loc} {ls : Array Slot} {σ0 : hSt} (a0 : Nat) (l1 : Int32) (σ : hSt) (G : Gx p m c cX12_startsPlan 4 s args RX12 D ay NM ad (aN NM ad)) (hm : meth.sig.returnType = none ∧ meth.locks = false) (ok_a0 : okr kM NM 12 a0 = true) (hf : F_X12_startsPlan a0 l1 σ = some σ0)  (w : Wd D ay kM NM ad (aN NM ad) s σ H locs) (hl : lv_has ls 4 [(0, .ref (ad a0)), (1, .int l1)]) : W p l e (rmK 0 0) s m args below meth c H locs 0 0 (MQ below (cV D ay kM NM ad σ0) args s 0 0 (aN NM ad)) (F0 m 0 ls []) := by
  have k_a0 := okr_in ok_a0
  unfold F_X12_startsPlan at hf
  refine lv_iconst (v := (0 : Int32)) G.hx G.hb (dcs_get dec_X12_startsPlan_0 0 rfl) (by decide) ?_
  refine lv_istore_n (lv' := [(2, .int (0 : Int32)), (0, .ref (ad a0)), (1, .int l1)]) G.hx G.hb (dcs_get dec_X12_startsPlan_0 1 rfl) rfl hl (by decide) rfl (fun ls hl => ?_)
  refine lv_iconst (v := (0 : Int32)) G.hx G.hb (dcs_get dec_X12_startsPlan_0 2 rfl) (by decide) ?_
  refine lv_istore_n (lv' := [(3, .int (0 : Int32)), (2, .int (0 : Int32)), (0, .ref (ad a0)), (1, .int l1)]) G.hx G.hb (dcs_get dec_X12_startsPlan_0 3 rfl) rfl hl (by decide) rfl (fun ls hl => ?_)
  exact B_X12_startsPlan_4 a0 l1 (0 : Int32) (0 : Int32) σ G hm ok_a0 hf  w (lv_sub hl [2, 3, 1, 0] rfl)
end
set_option maxRecDepth 100000 in
set_option maxHeartbeats 4000000 in
theorem C_X12_startsPlan {l : Launch} {D : va_G} {ay : Nat → ClassId} {ad : Nat → Nat} (hi : hInj NM ad) (a0 : Nat) (l1 : Int32) (σ : hSt) {σ0 : hSt} (hf : F_X12_startsPlan a0 l1 σ = some σ0) (ok_a0 : okr kM NM 12 a0 = true) : hM l D ay kM NM ad yX12_startsPlan cX12_startsPlan 4 (none) (rmK 0 0) [.ref (ad a0), .int l1] σ (cV D ay kM NM ad σ0) := by
  refine hM_in (by decide) hi (Nat.le_of_ble_eq_true rfl) ?_
  intro p e s m below meth c G hm w ls hl
  exact B_X12_startsPlan_0 a0 l1 σ G hm ok_a0 hf w (lv_sub hl [0, 1] rfl)

/-! HillDrumsModel.planDay(I)V -/
def DL_X12_planDay_0 : List (Nat × Instr × Nat) := [(0, .aload_n 0, 1), (1, .iload_n 1, 1), (2, .invokevirtual 365, 3), (5, .iconst 0, 1), (6, .istore_n 2, 1), (7, .iload_n 2, 1), (8, .bipush 64, 2), (10, .if_icmp .ge 16, 3), (13, .aload_n 0, 1), (14, .getfield 137, 3), (17, .iload_n 2, 1), (18, .iconst (-1), 1), (19, .iastore, 1), (20, .iinc 2 1, 3), (23, .goto (-16), 3), (26, .iconst 0, 1), (27, .istore_n 2, 1), (28, .iload_n 2, 1), (29, .iconst 1, 1), (30, .aload_n 0, 1), (31, .getfield 49, 3), (34, .aload_n 0, 1), (35, .getfield 236, 3), (38, .iaload, 1), (39, .ishl, 1), (40, .if_icmp .ge 124, 3), (43, .aload_n 0, 1), (44, .iload_n 2, 1), (45, .invokevirtual 399, 3), (48, .ifCond .ne 6, 3), (51, .goto 107, 3), (54, .aload_n 0, 1), (55, .iload_n 2, 1), (56, .invokevirtual 402, 3), (59, .istore_n 3, 1), (60, .iconst 0, 1), (61, .istore 4, 2), (63, .iload 4, 2), (65, .iconst 1, 1), (66, .aload_n 0, 1)]
set_option maxRecDepth 100000 in
theorem dec_X12_planDay_0 : dcs cX12_planDay DL_X12_planDay_0 = true := by decide +kernel
def DL_X12_planDay_1 : List (Nat × Instr × Nat) := [(67, .getfield 49, 3), (70, .aload_n 0, 1), (71, .getfield 236, 3), (74, .iaload, 1), (75, .ishl, 1), (76, .if_icmp .ge 82, 3), (79, .aload_n 0, 1), (80, .getfield 134, 3), (83, .iload 4, 2), (85, .iaload, 1), (86, .ifCond .lt 66, 3), (89, .iload_n 2, 1), (90, .iload 4, 2), (92, .iconst (-1), 1), (93, .ixor, 1), (94, .iand, 1), (95, .ifCond .eq 6, 3), (98, .goto 54, 3), (101, .aload_n 0, 1), (102, .getfield 134, 3), (105, .iload 4, 2), (107, .iaload, 1), (108, .iload_n 2, 1), (109, .invokestatic 405, 3), (112, .iadd, 1), (113, .istore 5, 2), (115, .iload 4, 2), (117, .iload_n 3, 1), (118, .ior, 1), (119, .istore 6, 2), (121, .aload_n 0, 1), (122, .getfield 137, 3), (125, .iload 6, 2), (127, .iaload, 1), (128, .ifCond .lt 15, 3), (131, .iload 5, 2), (133, .aload_n 0, 1), (134, .getfield 137, 3), (137, .iload 6, 2), (139, .iaload, 1)]
set_option maxRecDepth 100000 in
theorem dec_X12_planDay_1 : dcs cX12_planDay DL_X12_planDay_1 = true := by decide +kernel
def DL_X12_planDay_2 : List (Nat × Instr × Nat) := [(140, .if_icmp .ge 12, 3), (143, .aload_n 0, 1), (144, .getfield 137, 3), (147, .iload 6, 2), (149, .iload 5, 2), (151, .iastore, 1), (152, .iinc 4 1, 3), (155, .goto (-92), 3), (158, .iinc 2 1, 3), (161, .goto (-133), 3), (164, .iconst 0, 1), (165, .istore_n 2, 1), (166, .iload_n 2, 1), (167, .bipush 64, 2), (169, .if_icmp .ge 21, 3), (172, .aload_n 0, 1), (173, .getfield 134, 3), (176, .iload_n 2, 1), (177, .aload_n 0, 1), (178, .getfield 137, 3), (181, .iload_n 2, 1), (182, .iaload, 1), (183, .iastore, 1), (184, .iinc 2 1, 3), (187, .goto (-21), 3), (190, .return_, 1)]
set_option maxRecDepth 100000 in
theorem dec_X12_planDay_2 : dcs cX12_planDay DL_X12_planDay_2 = true := by decide +kernel
theorem lb_X12_planDay : lkB yX12_planDay cX12_planDay 7 (none) 1 := ⟨q_1495, q_14, ⟨by decide, by decide⟩, by decide +kernel⟩
theorem lv_X12_planDay : lkV yX12_planDay := ⟨q_1494, qs_115⟩
def F_X12_planDay_158 (a0 : Nat) (l2 : Int32) (σ : hSt) : Option ((Int32 × hSt) ⊕ (hSt)) :=
cL (l2 + (1 : Int32)) fun v1 =>
some (.inl (v1, σ))
def F_X12_planDay_152 (a0 : Nat) (l2 : Int32) (l3 : Int32) (l4 : Int32) (σ : hSt) : Option ((Int32 × hSt) ⊕ ((Int32 × hSt) ⊕ (hSt))) :=
cL (l4 + (1 : Int32)) fun v2 =>
some (.inl (v2, σ))
def F_X12_planDay_143 (a0 : Nat) (l2 : Int32) (l3 : Int32) (l4 : Int32) (l5 : Int32) (l6 : Int32) (σ : hSt) : Option ((Int32 × hSt) ⊕ ((Int32 × hSt) ⊕ (hSt))) :=
cR (σ.2.2 a0 60) (okr kM NM 101) fun z3 =>
cG (inb l6 (kM z3).2) <|
cL (uI σ z3 l6.toNatClampNeg l5) fun σ5 =>
F_X12_planDay_152 a0 l2 l3 l4 σ5
def F_X12_planDay_63b (a0 : Nat) (l2 : Int32) (l3 : Int32) (l4 : Int32) (σ : hSt) : Option ((Int32 × hSt) ⊕ ((Int32 × hSt) ⊕ (hSt))) :=
cR (σ.2.2 a0 24) (okr kM NM 101) fun z6 =>
cG (inb (σ.1 a0 18) (kM z6).2) <|
if ((1 : Int32) <<< ((σ.1 z6 (σ.1 a0 18).toNatClampNeg) &&& 31)) ≤ l4 then (
(F_X12_planDay_158 a0 l2 σ).map (fun x => .inr (x))) else (
cR (σ.2.2 a0 59) (okr kM NM 101) fun z8 =>
cG (inb l4 (kM z8).2) <|
if (σ.1 z8 l4.toNatClampNeg) < 0 then (
F_X12_planDay_152 a0 l2 l3 l4 σ) else (
if (l2 &&& (l4 ^^^ (-1 : Int32))) = 0 then (
cR (σ.2.2 a0 59) (okr kM NM 101) fun z10 =>
cG (inb l4 (kM z10).2) <|
(F_X12_bits l2 σ).bind fun v13 =>
cL ((σ.1 z10 l4.toNatClampNeg) + v13) fun v14 =>
cL (l4 ||| l3) fun v15 =>
cR (σ.2.2 a0 60) (okr kM NM 101) fun z16 =>
cG (inb v15 (kM z16).2) <|
if (σ.1 z16 v15.toNatClampNeg) < 0 then (
F_X12_planDay_143 a0 l2 l3 l4 v14 v15 σ) else (
cR (σ.2.2 a0 60) (okr kM NM 101) fun z18 =>
cG (inb v15 (kM z18).2) <|
if (σ.1 z18 v15.toNatClampNeg) ≤ v14 then (
F_X12_planDay_152 a0 l2 l3 l4 σ) else (
F_X12_planDay_143 a0 l2 l3 l4 v14 v15 σ))) else (
F_X12_planDay_152 a0 l2 l3 l4 σ)))
def S_X12_planDay_63 (a0 : Nat) (l2 : Int32) (l3 : Int32) (v : Int32 × hSt) : Option ((Int32 × hSt) ⊕ ((Int32 × hSt) ⊕ (hSt))) := F_X12_planDay_63b a0 l2 l3 v.1 v.2
def F_X12_planDay_63 (a0 : Nat) (l2 : Int32) (l3 : Int32) (l4 : Int32) (σ : hSt) : Option ((Int32 × hSt) ⊕ (hSt)) := lp (S_X12_planDay_63 a0 l2 l3) fuel (l4, σ)
def F_X12_planDay_166b (a0 : Nat) (l2 : Int32) (σ : hSt) : Option ((Int32 × hSt) ⊕ (hSt)) :=
if (64 : Int32) ≤ l2 then (
some (.inr (σ))) else (
cR (σ.2.2 a0 59) (okr kM NM 101) fun z20 =>
cR (σ.2.2 a0 60) (okr kM NM 101) fun z21 =>
cG (inb l2 (kM z21).2) <|
cG (inb l2 (kM z20).2) <|
cL (uI σ z20 l2.toNatClampNeg (σ.1 z21 l2.toNatClampNeg)) fun σ24 =>
cL (l2 + (1 : Int32)) fun v25 =>
some (.inl (v25, σ24)))
def S_X12_planDay_166 (a0 : Nat) (v : Int32 × hSt) : Option ((Int32 × hSt) ⊕ (hSt)) := F_X12_planDay_166b a0 v.1 v.2
def F_X12_planDay_166 (a0 : Nat) (l2 : Int32) (σ : hSt) : Option (hSt) := lp (S_X12_planDay_166 a0) fuel (l2, σ)
def F_X12_planDay_28b (a0 : Nat) (l2 : Int32) (σ : hSt) : Option ((Int32 × hSt) ⊕ (hSt)) :=
cR (σ.2.2 a0 24) (okr kM NM 101) fun z26 =>
cG (inb (σ.1 a0 18) (kM z26).2) <|
if ((1 : Int32) <<< ((σ.1 z26 (σ.1 a0 18).toNatClampNeg) &&& 31)) ≤ l2 then (
(F_X12_planDay_166 a0 (0 : Int32) σ).map (fun x => .inr (x))) else (
(F_X12_canDrum a0 l2 σ).bind fun v29 =>
if v29 = 0 then (
F_X12_planDay_158 a0 l2 σ) else (
(F_X12_heardOf a0 l2 σ).bind fun v31 =>
F_X12_planDay_63 a0 l2 v31 (0 : Int32) σ))
def S_X12_planDay_28 (a0 : Nat) (v : Int32 × hSt) : Option ((Int32 × hSt) ⊕ (hSt)) := F_X12_planDay_28b a0 v.1 v.2
def F_X12_planDay_28 (a0 : Nat) (l2 : Int32) (σ : hSt) : Option (hSt) := lp (S_X12_planDay_28 a0) fuel (l2, σ)
def F_X12_planDay_7b (a0 : Nat) (l2 : Int32) (σ : hSt) : Option ((Int32 × hSt) ⊕ (hSt)) :=
if (64 : Int32) ≤ l2 then (
(F_X12_planDay_28 a0 (0 : Int32) σ).map (fun x => .inr (x))) else (
cR (σ.2.2 a0 60) (okr kM NM 101) fun z32 =>
cG (inb l2 (kM z32).2) <|
cL (uI σ z32 l2.toNatClampNeg (-1 : Int32)) fun σ34 =>
cL (l2 + (1 : Int32)) fun v35 =>
some (.inl (v35, σ34)))
def S_X12_planDay_7 (a0 : Nat) (v : Int32 × hSt) : Option ((Int32 × hSt) ⊕ (hSt)) := F_X12_planDay_7b a0 v.1 v.2
def F_X12_planDay_7 (a0 : Nat) (l2 : Int32) (σ : hSt) : Option (hSt) := lp (S_X12_planDay_7 a0) fuel (l2, σ)
def F_X12_planDay (a0 : Nat) (l1 : Int32) (σ : hSt) : Option (hSt) :=
(F_X12_fillsHearers a0 l1 σ).bind fun σ37 =>
F_X12_planDay_7 a0 (0 : Int32) σ37
section
variable {p : Program} {l : Launch} {e : Env} {s : State} {m : MethodId} {args : Array Value} {below : List Frame} {meth : Method} {c : Code} {D : va_G} {ay : Nat → ClassId} {ad : Nat → Nat}
set_option maxRecDepth 100000 in
set_option maxHeartbeats 4000000 in
theorem B_X12_planDay_158 {H : Heap} {locs : List Loc} {ls : Array Slot} {σ0 : hSt} {o : (Int32 × hSt) ⊕ (hSt)} (a0 : Nat) (l2 : Int32) (σ : hSt) (G : Gx p m c cX12_planDay 7 s args RX12 D ay NM ad (aN NM ad)) (hm : meth.sig.returnType = none ∧ meth.locks = false) (ok_a0 : okr kM NM 12 a0 = true) (hf : F_X12_planDay_158 a0 l2 σ = some o) (hb0 : ∀ (v : Int32 × hSt), o = .inl v → ∀ (H : Heap) (locs : List Loc) (ls : Array Slot), Wd D ay kM NM ad (aN NM ad) s v.2 H locs → lv_has ls 7 [(0, .ref (ad a0)), (2, .int v.1)] → W p l e (rmK 4 102) s m args below meth c H locs 0 0 (MQ below (cV D ay kM NM ad σ0) args s 0 0 (aN NM ad)) (F0 m 28 ls [])) (hr : ∀ x, o = .inr (x) → x = σ0) (w : Wd D ay kM NM ad (aN NM ad) s σ H locs) (hl : lv_has ls 7 [(0, .ref (ad a0)), (2, .int l2)]) : W p l e (rmK 4 102) s m args below meth c H locs 0 0 (MQ below (cV D ay kM NM ad σ0) args s 0 0 (aN NM ad)) (F0 m 158 ls []) := by
  have k_a0 := okr_in ok_a0
  unfold F_X12_planDay_158 at hf
  obtain ⟨v1, e_v1, hf⟩ := cL_some hf
  refine lv_iinc (v := v1) (lv' := [(2, .int v1), (0, .ref (ad a0))]) G.hx G.hb (dcs_get dec_X12_planDay_2 8 rfl) hl (k := 1) rfl (by rw [e_v1]; rfl) (by decide) rfl (fun ls hl => ?_)
  refine lv_goto (tgt := 28) G.hx G.hb (dcs_get dec_X12_planDay_2 9 rfl) (by decide) ?_
  exact hb0 _ (Option.some.inj hf).symm _ _ _ w (lv_sub hl [1, 0] rfl)
set_option maxRecDepth 100000 in
set_option maxHeartbeats 4000000 in
theorem B_X12_planDay_152 {H : Heap} {locs : List Loc} {ls : Array Slot} {σ0 : hSt} {o : (Int32 × hSt) ⊕ ((Int32 × hSt) ⊕ (hSt))} (a0 : Nat) (l2 : Int32) (l3 : Int32) (l4 : Int32) (σ : hSt) (G : Gx p m c cX12_planDay 7 s args RX12 D ay NM ad (aN NM ad)) (hm : meth.sig.returnType = none ∧ meth.locks = false) (ok_a0 : okr kM NM 12 a0 = true) (hf : F_X12_planDay_152 a0 l2 l3 l4 σ = some o) (hb0 : ∀ (v : Int32 × hSt), o = .inr (.inl v) → ∀ (H : Heap) (locs : List Loc) (ls : Array Slot), Wd D ay kM NM ad (aN NM ad) s v.2 H locs → lv_has ls 7 [(0, .ref (ad a0)), (2, .int v.1)] → W p l e (rmK 4 102) s m args below meth c H locs 0 0 (MQ below (cV D ay kM NM ad σ0) args s 0 0 (aN NM ad)) (F0 m 28 ls [])) (hb1 : ∀ (v : Int32 × hSt), o = .inl v → ∀ (H : Heap) (locs : List Loc) (ls : Array Slot), Wd D ay kM NM ad (aN NM ad) s v.2 H locs → lv_has ls 7 [(0, .ref (ad a0)), (2, .int l2), (3, .int l3), (4, .int v.1)] → W p l e (rmK 4 102) s m args below meth c H locs 0 0 (MQ below (cV D ay kM NM ad σ0) args s 0 0 (aN NM ad)) (F0 m 63 ls [])) (hr : ∀ x, o = .inr (.inr (x)) → x = σ0) (w : Wd D ay kM NM ad (aN NM ad) s σ H locs) (hl : lv_has ls 7 [(0, .ref (ad a0)), (2, .int l2), (3, .int l3), (4, .int l4)]) : W p l e (rmK 4 102) s m args below meth c H locs 0 0 (MQ below (cV D ay kM NM ad σ0) args s 0 0 (aN NM ad)) (F0 m 152 ls []) := by
  have k_a0 := okr_in ok_a0
  unfold F_X12_planDay_152 at hf
  obtain ⟨v2, e_v2, hf⟩ := cL_some hf
  refine lv_iinc (v := v2) (lv' := [(4, .int v2), (0, .ref (ad a0)), (2, .int l2), (3, .int l3)]) G.hx G.hb (dcs_get dec_X12_planDay_2 6 rfl) hl (k := 3) rfl (by rw [e_v2]; rfl) (by decide) rfl (fun ls hl => ?_)
  refine lv_goto (tgt := 63) G.hx G.hb (dcs_get dec_X12_planDay_2 7 rfl) (by decide) ?_
  exact hb1 _ (Option.some.inj hf).symm _ _ _ w (lv_sub hl [1, 2, 3, 0] rfl)
set_option maxRecDepth 100000 in
set_option maxHeartbeats 4000000 in
theorem B_X12_planDay_143 {H : Heap} {locs : List Loc} {ls : Array Slot} {σ0 : hSt} {o : (Int32 × hSt) ⊕ ((Int32 × hSt) ⊕ (hSt))} (a0 : Nat) (l2 : Int32) (l3 : Int32) (l4 : Int32) (l5 : Int32) (l6 : Int32) (σ : hSt) (G : Gx p m c cX12_planDay 7 s args RX12 D ay NM ad (aN NM ad)) (hm : meth.sig.returnType = none ∧ meth.locks = false) (ok_a0 : okr kM NM 12 a0 = true) (hf : F_X12_planDay_143 a0 l2 l3 l4 l5 l6 σ = some o) (hb0 : ∀ (v : Int32 × hSt), o = .inr (.inl v) → ∀ (H : Heap) (locs : List Loc) (ls : Array Slot), Wd D ay kM NM ad (aN NM ad) s v.2 H locs → lv_has ls 7 [(0, .ref (ad a0)), (2, .int v.1)] → W p l e (rmK 4 102) s m args below meth c H locs 0 0 (MQ below (cV D ay kM NM ad σ0) args s 0 0 (aN NM ad)) (F0 m 28 ls [])) (hb1 : ∀ (v : Int32 × hSt), o = .inl v → ∀ (H : Heap) (locs : List Loc) (ls : Array Slot), Wd D ay kM NM ad (aN NM ad) s v.2 H locs → lv_has ls 7 [(0, .ref (ad a0)), (2, .int l2), (3, .int l3), (4, .int v.1)] → W p l e (rmK 4 102) s m args below meth c H locs 0 0 (MQ below (cV D ay kM NM ad σ0) args s 0 0 (aN NM ad)) (F0 m 63 ls [])) (hr : ∀ x, o = .inr (.inr (x)) → x = σ0) (w : Wd D ay kM NM ad (aN NM ad) s σ H locs) (hl : lv_has ls 7 [(0, .ref (ad a0)), (2, .int l2), (3, .int l3), (4, .int l4), (5, .int l5), (6, .int l6)]) : W p l e (rmK 4 102) s m args below meth c H locs 0 0 (MQ below (cV D ay kM NM ad σ0) args s 0 0 (aN NM ad)) (F0 m 143 ls []) := by
  have k_a0 := okr_in ok_a0
  unfold F_X12_planDay_143 at hf
  refine lv_aload_n G.hx G.hb (dcs_get dec_X12_planDay_2 1 rfl) rfl (lv_at hl 0 rfl) ?_
  obtain ⟨z3, e_z3, ok_z3, hf⟩ := cR_some hf
  have k_z3 := okr_in ok_z3
  refine r_getr (k := 60) cls12 fi_12_60.1 fi_12_60.2 q_1068 G w k_a0.1 k_a0.2 e_z3 (dcs_get dec_X12_planDay_2 2 rfl) ?_
  refine lv_iload G.hx G.hb (dcs_get dec_X12_planDay_2 3 rfl) (lv_at hl 5 rfl) ?_
  refine lv_iload G.hx G.hb (dcs_get dec_X12_planDay_2 4 rfl) (lv_at hl 4 rfl) ?_
  obtain ⟨h4, hf⟩ := cG_some hf
  obtain ⟨σ5, e_σ5, hf⟩ := cL_some hf
  refine r_iast G w k_z3.1 k_z3.2 h4 (dcs_get dec_X12_planDay_2 5 rfl) (fun H locs w => ?_)
  have w := Wd.nm e_σ5 w
  exact B_X12_planDay_152 a0 l2 l3 l4 σ5 G hm ok_a0 hf hb0 hb1 hr w (lv_sub hl [0, 1, 2, 3] rfl)
set_option maxRecDepth 100000 in
set_option maxHeartbeats 4000000 in
theorem B_X12_planDay_63b {H : Heap} {locs : List Loc} {ls : Array Slot} {σ0 : hSt} {o : (Int32 × hSt) ⊕ ((Int32 × hSt) ⊕ (hSt))} (a0 : Nat) (l2 : Int32) (l3 : Int32) (l4 : Int32) (σ : hSt) (G : Gx p m c cX12_planDay 7 s args RX12 D ay NM ad (aN NM ad)) (hm : meth.sig.returnType = none ∧ meth.locks = false) (ok_a0 : okr kM NM 12 a0 = true) (hf : F_X12_planDay_63b a0 l2 l3 l4 σ = some o) (hb0 : ∀ (v : Int32 × hSt), o = .inr (.inl v) → ∀ (H : Heap) (locs : List Loc) (ls : Array Slot), Wd D ay kM NM ad (aN NM ad) s v.2 H locs → lv_has ls 7 [(0, .ref (ad a0)), (2, .int v.1)] → W p l e (rmK 4 102) s m args below meth c H locs 0 0 (MQ below (cV D ay kM NM ad σ0) args s 0 0 (aN NM ad)) (F0 m 28 ls [])) (hb1 : ∀ (v : Int32 × hSt), o = .inl v → ∀ (H : Heap) (locs : List Loc) (ls : Array Slot), Wd D ay kM NM ad (aN NM ad) s v.2 H locs → lv_has ls 7 [(0, .ref (ad a0)), (2, .int l2), (3, .int l3), (4, .int v.1)] → W p l e (rmK 4 102) s m args below meth c H locs 0 0 (MQ below (cV D ay kM NM ad σ0) args s 0 0 (aN NM ad)) (F0 m 63 ls [])) (hr : ∀ x, o = .inr (.inr (x)) → x = σ0) (w : Wd D ay kM NM ad (aN NM ad) s σ H locs) (hl : lv_has ls 7 [(0, .ref (ad a0)), (2, .int l2), (3, .int l3), (4, .int l4)]) : W p l e (rmK 4 102) s m args below meth c H locs 0 0 (MQ below (cV D ay kM NM ad σ0) args s 0 0 (aN NM ad)) (F0 m 63 ls []) := by
  have k_a0 := okr_in ok_a0
  unfold F_X12_planDay_63b at hf
  refine lv_iload G.hx G.hb (dcs_get dec_X12_planDay_0 37 rfl) (lv_at hl 3 rfl) ?_
  refine lv_iconst (v := (1 : Int32)) G.hx G.hb (dcs_get dec_X12_planDay_0 38 rfl) (by decide) ?_
  refine lv_aload_n G.hx G.hb (dcs_get dec_X12_planDay_0 39 rfl) rfl (lv_at hl 0 rfl) ?_
  obtain ⟨z6, e_z6, ok_z6, hf⟩ := cR_some hf
  have k_z6 := okr_in ok_z6
  refine r_getr (k := 24) cls12 fi_12_24.1 fi_12_24.2 q_1032 G w k_a0.1 k_a0.2 e_z6 (dcs_get dec_X12_planDay_1 0 rfl) ?_
  refine lv_aload_n G.hx G.hb (dcs_get dec_X12_planDay_1 1 rfl) rfl (lv_at hl 0 rfl) ?_
  refine r_geti (k := 18) cls12 fi_12_18.1 fi_12_18.2 q_1026 G w k_a0.1 k_a0.2 (dcs_get dec_X12_planDay_1 2 rfl) ?_
  obtain ⟨h7, hf⟩ := cG_some hf
  refine r_iald G w k_z6.1 k_z6.2 h7 (dcs_get dec_X12_planDay_1 3 rfl) ?_
  refine lv_ishl G.hx G.hb (dcs_get dec_X12_planDay_1 4 rfl) ?_
  refine lv_icmp_ge (tgt := 158) G.hx G.hb (dcs_get dec_X12_planDay_1 5 rfl) (by decide) (fun hc => ?_) (fun hc => ?_)
  · rw [if_pos hc] at hf
    obtain ⟨x9, h9, e9⟩ := map_some_inv hf
    subst e9
    exact B_X12_planDay_158 a0 l2 σ G hm ok_a0 h9 (fun v e => hb0 v (by rw [e])) (fun x e => hr x (by rw [e])) w (lv_sub hl [0, 1] rfl)
  · rw [if_neg hc] at hf
    refine lv_aload_n G.hx G.hb (dcs_get dec_X12_planDay_1 6 rfl) rfl (lv_at hl 0 rfl) ?_
    obtain ⟨z8, e_z8, ok_z8, hf⟩ := cR_some hf
    have k_z8 := okr_in ok_z8
    refine r_getr (k := 59) cls12 fi_12_59.1 fi_12_59.2 q_1067 G w k_a0.1 k_a0.2 e_z8 (dcs_get dec_X12_planDay_1 7 rfl) ?_
    refine lv_iload G.hx G.hb (dcs_get dec_X12_planDay_1 8 rfl) (lv_at hl 3 rfl) ?_
    obtain ⟨h9, hf⟩ := cG_some hf
    refine r_iald G w k_z8.1 k_z8.2 h9 (dcs_get dec_X12_planDay_1 9 rfl) ?_
    refine lv_if_lt (tgt := 152) G.hx G.hb (dcs_get dec_X12_planDay_1 10 rfl) (by decide) (fun hc => ?_) (fun hc => ?_)
    · rw [if_pos hc] at hf
      exact B_X12_planDay_152 a0 l2 l3 l4 σ G hm ok_a0 hf hb0 hb1 hr w (lv_sub hl [0, 1, 2, 3] rfl)
    · rw [if_neg hc] at hf
      refine lv_iload_n G.hx G.hb (dcs_get dec_X12_planDay_1 11 rfl) rfl (lv_at hl 1 rfl) ?_
      refine lv_iload G.hx G.hb (dcs_get dec_X12_planDay_1 12 rfl) (lv_at hl 3 rfl) ?_
      refine lv_iconst (v := (-1 : Int32)) G.hx G.hb (dcs_get dec_X12_planDay_1 13 rfl) (by decide) ?_
      refine lv_ixor G.hx G.hb (dcs_get dec_X12_planDay_1 14 rfl) ?_
      refine lv_iand G.hx G.hb (dcs_get dec_X12_planDay_1 15 rfl) ?_
      refine lv_if_eq (tgt := 101) G.hx G.hb (dcs_get dec_X12_planDay_1 16 rfl) (by decide) (fun hc => ?_) (fun hc => ?_)
      · rw [if_pos hc] at hf
        refine lv_aload_n G.hx G.hb (dcs_get dec_X12_planDay_1 18 rfl) rfl (lv_at hl 0 rfl) ?_
        obtain ⟨z10, e_z10, ok_z10, hf⟩ := cR_some hf
        have k_z10 := okr_in ok_z10
        refine r_getr (k := 59) cls12 fi_12_59.1 fi_12_59.2 q_1067 G w k_a0.1 k_a0.2 e_z10 (dcs_get dec_X12_planDay_1 19 rfl) ?_
        refine lv_iload G.hx G.hb (dcs_get dec_X12_planDay_1 20 rfl) (lv_at hl 3 rfl) ?_
        obtain ⟨h11, hf⟩ := cG_some hf
        refine r_iald G w k_z10.1 k_z10.2 h11 (dcs_get dec_X12_planDay_1 21 rfl) ?_
        refine lv_iload_n G.hx G.hb (dcs_get dec_X12_planDay_1 22 rfl) rfl (lv_at hl 1 rfl) ?_
        obtain ⟨v13, h12, hf⟩ := cB_some hf
        refine a_i (k_S (As := [.int l2]) (rest := [.int (σ.1 z10 l4.toNatClampNeg)]) lb_X12_bits q_1505 q_1504 (C_X12_bits G.2.2.1 l2 σ h12 ) ⟨(Nat.le_of_ble_eq_true rfl), (Nat.le_of_ble_eq_true rfl)⟩ G w rfl rfl hl.1 (Nat.le_of_ble_eq_true rfl) (dcs_get dec_X12_planDay_1 23 rfl) ⟨Nat.le_refl _, Nat.le_refl _⟩) G w (fun H locs w => ?_)
        refine lv_iadd G.hx G.hb (dcs_get dec_X12_planDay_1 24 rfl) ?_
        obtain ⟨v14, e_v14, hf⟩ := cL_some hf
        refine r_topi e_v14 ?_
        refine lv_istore (lv' := [(5, .int v14), (0, .ref (ad a0)), (2, .int l2), (3, .int l3), (4, .int l4)]) G.hx G.hb (dcs_get dec_X12_planDay_1 25 rfl) hl (by decide) rfl (fun ls hl => ?_)
        refine lv_iload G.hx G.hb (dcs_get dec_X12_planDay_1 26 rfl) (lv_at hl 4 rfl) ?_
        refine lv_iload_n G.hx G.hb (dcs_get dec_X12_planDay_1 27 rfl) rfl (lv_at hl 3 rfl) ?_
        refine lv_ior G.hx G.hb (dcs_get dec_X12_planDay_1 28 rfl) ?_
        obtain ⟨v15, e_v15, hf⟩ := cL_some hf
        refine r_topi e_v15 ?_
        refine lv_istore (lv' := [(6, .int v15), (5, .int v14), (0, .ref (ad a0)), (2, .int l2), (3, .int l3), (4, .int l4)]) G.hx G.hb (dcs_get dec_X12_planDay_1 29 rfl) hl (by decide) rfl (fun ls hl => ?_)
        refine lv_aload_n G.hx G.hb (dcs_get dec_X12_planDay_1 30 rfl) rfl (lv_at hl 2 rfl) ?_
        obtain ⟨z16, e_z16, ok_z16, hf⟩ := cR_some hf
        have k_z16 := okr_in ok_z16
        refine r_getr (k := 60) cls12 fi_12_60.1 fi_12_60.2 q_1068 G w k_a0.1 k_a0.2 e_z16 (dcs_get dec_X12_planDay_1 31 rfl) ?_
        refine lv_iload G.hx G.hb (dcs_get dec_X12_planDay_1 32 rfl) (lv_at hl 0 rfl) ?_
        obtain ⟨h17, hf⟩ := cG_some hf
        refine r_iald G w k_z16.1 k_z16.2 h17 (dcs_get dec_X12_planDay_1 33 rfl) ?_
        refine lv_if_lt (tgt := 143) G.hx G.hb (dcs_get dec_X12_planDay_1 34 rfl) (by decide) (fun hc => ?_) (fun hc => ?_)
        · rw [if_pos hc] at hf
          exact B_X12_planDay_143 a0 l2 l3 l4 v14 v15 σ G hm ok_a0 hf hb0 hb1 hr w (lv_sub hl [2, 3, 4, 5, 1, 0] rfl)
        · rw [if_neg hc] at hf
          refine lv_iload G.hx G.hb (dcs_get dec_X12_planDay_1 35 rfl) (lv_at hl 1 rfl) ?_
          refine lv_aload_n G.hx G.hb (dcs_get dec_X12_planDay_1 36 rfl) rfl (lv_at hl 2 rfl) ?_
          obtain ⟨z18, e_z18, ok_z18, hf⟩ := cR_some hf
          have k_z18 := okr_in ok_z18
          refine r_getr (k := 60) cls12 fi_12_60.1 fi_12_60.2 q_1068 G w k_a0.1 k_a0.2 e_z18 (dcs_get dec_X12_planDay_1 37 rfl) ?_
          refine lv_iload G.hx G.hb (dcs_get dec_X12_planDay_1 38 rfl) (lv_at hl 0 rfl) ?_
          obtain ⟨h19, hf⟩ := cG_some hf
          refine r_iald G w k_z18.1 k_z18.2 h19 (dcs_get dec_X12_planDay_1 39 rfl) ?_
          refine lv_icmp_ge (tgt := 152) G.hx G.hb (dcs_get dec_X12_planDay_2 0 rfl) (by decide) (fun hc => ?_) (fun hc => ?_)
          · rw [if_pos hc] at hf
            exact B_X12_planDay_152 a0 l2 l3 l4 σ G hm ok_a0 hf hb0 hb1 hr w (lv_sub hl [2, 3, 4, 5] rfl)
          · rw [if_neg hc] at hf
            exact B_X12_planDay_143 a0 l2 l3 l4 v14 v15 σ G hm ok_a0 hf hb0 hb1 hr w (lv_sub hl [2, 3, 4, 5, 1, 0] rfl)
      · rw [if_neg hc] at hf
        refine lv_goto (tgt := 152) G.hx G.hb (dcs_get dec_X12_planDay_1 17 rfl) (by decide) ?_
        exact B_X12_planDay_152 a0 l2 l3 l4 σ G hm ok_a0 hf hb0 hb1 hr w (lv_sub hl [0, 1, 2, 3] rfl)
set_option maxRecDepth 100000 in
set_option maxHeartbeats 4000000 in
theorem H_X12_planDay_63 {σ0 : hSt} {o : (Int32 × hSt) ⊕ (hSt)} (a0 : Nat) (l2 : Int32) (l3 : Int32) (G : Gx p m c cX12_planDay 7 s args RX12 D ay NM ad (aN NM ad)) (hm : meth.sig.returnType = none ∧ meth.locks = false) (ok_a0 : okr kM NM 12 a0 = true) (hb0 : ∀ (v : Int32 × hSt), o = .inl v → ∀ (H : Heap) (locs : List Loc) (ls : Array Slot), Wd D ay kM NM ad (aN NM ad) s v.2 H locs → lv_has ls 7 [(0, .ref (ad a0)), (2, .int v.1)] → W p l e (rmK 4 102) s m args below meth c H locs 0 0 (MQ below (cV D ay kM NM ad σ0) args s 0 0 (aN NM ad)) (F0 m 28 ls [])) (hr : ∀ x, o = .inr (x) → x = σ0) : ∀ (k : Nat) (v : Int32 × hSt), lp (S_X12_planDay_63 a0 l2 l3) k v = some o → ∀ (H : Heap) (locs : List Loc) (ls : Array Slot), Wd D ay kM NM ad (aN NM ad) s v.2 H locs → lv_has ls 7 [(0, .ref (ad a0)), (2, .int l2), (3, .int l3), (4, .int v.1)] → W p l e (rmK 4 102) s m args below meth c H locs 0 0 (MQ below (cV D ay kM NM ad σ0) args s 0 0 (aN NM ad)) (F0 m 63 ls []) := by
  intro k
  induction k with
  | zero => intro v hf; cases hf
  | succ k ih =>
    intro v hf H locs ls w hl
    obtain ⟨o1, h1, h2, h3⟩ := lp_some hf
    exact B_X12_planDay_63b a0 l2 l3 v.1 v.2 G hm ok_a0 h1 (fun v' e => hb0 v' (h3 _ e).symm) (fun v' e => ih v' (h2 v' e)) (fun x e => hr x (h3 _ e).symm) w hl
set_option maxRecDepth 100000 in
set_option maxHeartbeats 4000000 in
theorem B_X12_planDay_63 {H : Heap} {locs : List Loc} {ls : Array Slot} {σ0 : hSt} {o : (Int32 × hSt) ⊕ (hSt)} (a0 : Nat) (l2 : Int32) (l3 : Int32) (l4 : Int32) (σ : hSt) (G : Gx p m c cX12_planDay 7 s args RX12 D ay NM ad (aN NM ad)) (hm : meth.sig.returnType = none ∧ meth.locks = false) (ok_a0 : okr kM NM 12 a0 = true) (hf : F_X12_planDay_63 a0 l2 l3 l4 σ = some o) (hb0 : ∀ (v : Int32 × hSt), o = .inl v → ∀ (H : Heap) (locs : List Loc) (ls : Array Slot), Wd D ay kM NM ad (aN NM ad) s v.2 H locs → lv_has ls 7 [(0, .ref (ad a0)), (2, .int v.1)] → W p l e (rmK 4 102) s m args below meth c H locs 0 0 (MQ below (cV D ay kM NM ad σ0) args s 0 0 (aN NM ad)) (F0 m 28 ls [])) (hr : ∀ x, o = .inr (x) → x = σ0) (w : Wd D ay kM NM ad (aN NM ad) s σ H locs) (hl : lv_has ls 7 [(0, .ref (ad a0)), (2, .int l2), (3, .int l3), (4, .int l4)]) : W p l e (rmK 4 102) s m args below meth c H locs 0 0 (MQ below (cV D ay kM NM ad σ0) args s 0 0 (aN NM ad)) (F0 m 63 ls []) := by
  unfold F_X12_planDay_63 at hf
  exact H_X12_planDay_63 a0 l2 l3  G hm ok_a0 hb0 hr fuel (l4, σ) hf _ _ _ w hl
set_option maxRecDepth 100000 in
set_option maxHeartbeats 4000000 in
theorem B_X12_planDay_166b {H : Heap} {locs : List Loc} {ls : Array Slot} {σ0 : hSt} {o : (Int32 × hSt) ⊕ (hSt)} (a0 : Nat) (l2 : Int32) (σ : hSt) (G : Gx p m c cX12_planDay 7 s args RX12 D ay NM ad (aN NM ad)) (hm : meth.sig.returnType = none ∧ meth.locks = false) (ok_a0 : okr kM NM 12 a0 = true) (hf : F_X12_planDay_166b a0 l2 σ = some o) (hb0 : ∀ (v : Int32 × hSt), o = .inl v → ∀ (H : Heap) (locs : List Loc) (ls : Array Slot), Wd D ay kM NM ad (aN NM ad) s v.2 H locs → lv_has ls 7 [(0, .ref (ad a0)), (2, .int v.1)] → W p l e (rmK 4 102) s m args below meth c H locs 0 0 (MQ below (cV D ay kM NM ad σ0) args s 0 0 (aN NM ad)) (F0 m 166 ls [])) (hr : ∀ x, o = .inr (x) → x = σ0) (w : Wd D ay kM NM ad (aN NM ad) s σ H locs) (hl : lv_has ls 7 [(0, .ref (ad a0)), (2, .int l2)]) : W p l e (rmK 4 102) s m args below meth c H locs 0 0 (MQ below (cV D ay kM NM ad σ0) args s 0 0 (aN NM ad)) (F0 m 166 ls []) := by
  have k_a0 := okr_in ok_a0
  unfold F_X12_planDay_166b at hf
  refine lv_iload_n G.hx G.hb (dcs_get dec_X12_planDay_2 12 rfl) rfl (lv_at hl 1 rfl) ?_
  refine lv_bipush (v := (64 : Int32)) G.hx G.hb (dcs_get dec_X12_planDay_2 13 rfl) (by decide) ?_
  refine lv_icmp_ge (tgt := 190) G.hx G.hb (dcs_get dec_X12_planDay_2 14 rfl) (by decide) (fun hc => ?_) (fun hc => ?_)
  · rw [if_pos hc] at hf
    have e9 := hr _ (Option.some.inj hf).symm
    exact r_vret G w hm e9 (dcs_get dec_X12_planDay_2 25 rfl)
  · rw [if_neg hc] at hf
    refine lv_aload_n G.hx G.hb (dcs_get dec_X12_planDay_2 15 rfl) rfl (lv_at hl 0 rfl) ?_
    obtain ⟨z20, e_z20, ok_z20, hf⟩ := cR_some hf
    have k_z20 := okr_in ok_z20
    refine r_getr (k := 59) cls12 fi_12_59.1 fi_12_59.2 q_1067 G w k_a0.1 k_a0.2 e_z20 (dcs_get dec_X12_planDay_2 16 rfl) ?_
    refine lv_iload_n G.hx G.hb (dcs_get dec_X12_planDay_2 17 rfl) rfl (lv_at hl 1 rfl) ?_
    refine lv_aload_n G.hx G.hb (dcs_get dec_X12_planDay_2 18 rfl) rfl (lv_at hl 0 rfl) ?_
    obtain ⟨z21, e_z21, ok_z21, hf⟩ := cR_some hf
    have k_z21 := okr_in ok_z21
    refine r_getr (k := 60) cls12 fi_12_60.1 fi_12_60.2 q_1068 G w k_a0.1 k_a0.2 e_z21 (dcs_get dec_X12_planDay_2 19 rfl) ?_
    refine lv_iload_n G.hx G.hb (dcs_get dec_X12_planDay_2 20 rfl) rfl (lv_at hl 1 rfl) ?_
    obtain ⟨h22, hf⟩ := cG_some hf
    refine r_iald G w k_z21.1 k_z21.2 h22 (dcs_get dec_X12_planDay_2 21 rfl) ?_
    obtain ⟨h23, hf⟩ := cG_some hf
    obtain ⟨σ24, e_σ24, hf⟩ := cL_some hf
    refine r_iast G w k_z20.1 k_z20.2 h23 (dcs_get dec_X12_planDay_2 22 rfl) (fun H locs w => ?_)
    have w := Wd.nm e_σ24 w
    obtain ⟨v25, e_v25, hf⟩ := cL_some hf
    refine lv_iinc (v := v25) (lv' := [(2, .int v25), (0, .ref (ad a0))]) G.hx G.hb (dcs_get dec_X12_planDay_2 23 rfl) hl (k := 1) rfl (by rw [e_v25]; rfl) (by decide) rfl (fun ls hl => ?_)
    refine lv_goto (tgt := 166) G.hx G.hb (dcs_get dec_X12_planDay_2 24 rfl) (by decide) ?_
    exact hb0 _ (Option.some.inj hf).symm _ _ _ w (lv_sub hl [1, 0] rfl)
set_option maxRecDepth 100000 in
set_option maxHeartbeats 4000000 in
theorem H_X12_planDay_166 {σ0 : hSt} (a0 : Nat) (G : Gx p m c cX12_planDay 7 s args RX12 D ay NM ad (aN NM ad)) (hm : meth.sig.returnType = none ∧ meth.locks = false) (ok_a0 : okr kM NM 12 a0 = true)  : ∀ (k : Nat) (v : Int32 × hSt), lp (S_X12_planDay_166 a0) k v = some σ0 → ∀ (H : Heap) (locs : List Loc) (ls : Array Slot), Wd D ay kM NM ad (aN NM ad) s v.2 H locs → lv_has ls 7 [(0, .ref (ad a0)), (2, .int v.1)] → W p l e (rmK 4 102) s m args below meth c H locs 0 0 (MQ below (cV D ay kM NM ad σ0) args s 0 0 (aN NM ad)) (F0 m 166 ls []) := by
  intro k
  induction k with
  | zero => intro v hf; cases hf
  | succ k ih =>
    intro v hf H locs ls w hl
    obtain ⟨o1, h1, h2, h3⟩ := lp_some hf
    exact B_X12_planDay_166b a0 v.1 v.2 G hm ok_a0 h1  (fun v' e => ih v' (h2 v' e)) (fun x e => h3 x e) w hl
set_option maxRecDepth 100000 in
set_option maxHeartbeats 4000000 in
theorem B_X12_planDay_166 {H : Heap} {locs : List Loc} {ls : Array Slot} {σ0 : hSt} (a0 : Nat) (l2 : Int32) (σ : hSt) (G : Gx p m c cX12_planDay 7 s args RX12 D ay NM ad (aN NM ad)) (hm : meth.sig.returnType = none ∧ meth.locks = false) (ok_a0 : okr kM NM 12 a0 = true) (hf : F_X12_planDay_166 a0 l2 σ = some σ0)  (w : Wd D ay kM NM ad (aN NM ad) s σ H locs) (hl : lv_has ls 7 [(0, .ref (ad a0)), (2, .int l2)]) : W p l e (rmK 4 102) s m args below meth c H locs 0 0 (MQ below (cV D ay kM NM ad σ0) args s 0 0 (aN NM ad)) (F0 m 166 ls []) := by
  unfold F_X12_planDay_166 at hf
  exact H_X12_planDay_166 a0  G hm ok_a0  fuel (l2, σ) hf _ _ _ w hl
set_option maxRecDepth 100000 in
set_option maxHeartbeats 4000000 in
theorem B_X12_planDay_28b {H : Heap} {locs : List Loc} {ls : Array Slot} {σ0 : hSt} {o : (Int32 × hSt) ⊕ (hSt)} (a0 : Nat) (l2 : Int32) (σ : hSt) (G : Gx p m c cX12_planDay 7 s args RX12 D ay NM ad (aN NM ad)) (hm : meth.sig.returnType = none ∧ meth.locks = false) (ok_a0 : okr kM NM 12 a0 = true) (hf : F_X12_planDay_28b a0 l2 σ = some o) (hb0 : ∀ (v : Int32 × hSt), o = .inl v → ∀ (H : Heap) (locs : List Loc) (ls : Array Slot), Wd D ay kM NM ad (aN NM ad) s v.2 H locs → lv_has ls 7 [(0, .ref (ad a0)), (2, .int v.1)] → W p l e (rmK 4 102) s m args below meth c H locs 0 0 (MQ below (cV D ay kM NM ad σ0) args s 0 0 (aN NM ad)) (F0 m 28 ls [])) (hr : ∀ x, o = .inr (x) → x = σ0) (w : Wd D ay kM NM ad (aN NM ad) s σ H locs) (hl : lv_has ls 7 [(0, .ref (ad a0)), (2, .int l2)]) : W p l e (rmK 4 102) s m args below meth c H locs 0 0 (MQ below (cV D ay kM NM ad σ0) args s 0 0 (aN NM ad)) (F0 m 28 ls []) := by
  have k_a0 := okr_in ok_a0
  unfold F_X12_planDay_28b at hf
  refine lv_iload_n G.hx G.hb (dcs_get dec_X12_planDay_0 17 rfl) rfl (lv_at hl 1 rfl) ?_
  refine lv_iconst (v := (1 : Int32)) G.hx G.hb (dcs_get dec_X12_planDay_0 18 rfl) (by decide) ?_
  refine lv_aload_n G.hx G.hb (dcs_get dec_X12_planDay_0 19 rfl) rfl (lv_at hl 0 rfl) ?_
  obtain ⟨z26, e_z26, ok_z26, hf⟩ := cR_some hf
  have k_z26 := okr_in ok_z26
  refine r_getr (k := 24) cls12 fi_12_24.1 fi_12_24.2 q_1032 G w k_a0.1 k_a0.2 e_z26 (dcs_get dec_X12_planDay_0 20 rfl) ?_
  refine lv_aload_n G.hx G.hb (dcs_get dec_X12_planDay_0 21 rfl) rfl (lv_at hl 0 rfl) ?_
  refine r_geti (k := 18) cls12 fi_12_18.1 fi_12_18.2 q_1026 G w k_a0.1 k_a0.2 (dcs_get dec_X12_planDay_0 22 rfl) ?_
  obtain ⟨h27, hf⟩ := cG_some hf
  refine r_iald G w k_z26.1 k_z26.2 h27 (dcs_get dec_X12_planDay_0 23 rfl) ?_
  refine lv_ishl G.hx G.hb (dcs_get dec_X12_planDay_0 24 rfl) ?_
  refine lv_icmp_ge (tgt := 164) G.hx G.hb (dcs_get dec_X12_planDay_0 25 rfl) (by decide) (fun hc => ?_) (fun hc => ?_)
  · rw [if_pos hc] at hf
    refine lv_iconst (v := (0 : Int32)) G.hx G.hb (dcs_get dec_X12_planDay_2 10 rfl) (by decide) ?_
    refine lv_istore_n (lv' := [(2, .int (0 : Int32)), (0, .ref (ad a0))]) G.hx G.hb (dcs_get dec_X12_planDay_2 11 rfl) rfl hl (by decide) rfl (fun ls hl => ?_)
    obtain ⟨x9, h9, e9⟩ := map_some_inv hf
    subst e9
    have e8 := hr _ rfl
    rw [e8] at h9
    exact B_X12_planDay_166 a0 (0 : Int32) σ G hm ok_a0 h9 w (lv_sub hl [1, 0] rfl)
  · rw [if_neg hc] at hf
    refine lv_aload_n G.hx G.hb (dcs_get dec_X12_planDay_0 26 rfl) rfl (lv_at hl 0 rfl) ?_
    refine lv_iload_n G.hx G.hb (dcs_get dec_X12_planDay_0 27 rfl) rfl (lv_at hl 1 rfl) ?_
    obtain ⟨v29, h28, hf⟩ := cB_some hf
    refine a_i (k_V (As := [.int l2]) (rest := []) cls12 lb_X12_canDrum lv_X12_canDrum q_1496 (C_X12_canDrum G.2.2.1 a0 l2 σ h28 ok_a0) ⟨(Nat.le_of_ble_eq_true rfl), (Nat.le_of_ble_eq_true rfl)⟩ G w k_a0.1 k_a0.2 rfl rfl hl.1 (Nat.le_of_ble_eq_true rfl) (dcs_get dec_X12_planDay_0 28 rfl) ⟨Nat.le_refl _, Nat.le_refl _⟩) G w (fun H locs w => ?_)
    refine lv_if_ne (tgt := 54) G.hx G.hb (dcs_get dec_X12_planDay_0 29 rfl) (by decide) (fun hc => ?_) (fun hc => ?_)
    · rw [if_neg hc] at hf
      refine lv_aload_n G.hx G.hb (dcs_get dec_X12_planDay_0 31 rfl) rfl (lv_at hl 0 rfl) ?_
      refine lv_iload_n G.hx G.hb (dcs_get dec_X12_planDay_0 32 rfl) rfl (lv_at hl 1 rfl) ?_
      obtain ⟨v31, h30, hf⟩ := cB_some hf
      refine a_i (k_V (As := [.int l2]) (rest := []) cls12 lb_X12_heardOf lv_X12_heardOf q_1500 (C_X12_heardOf G.2.2.1 a0 l2 σ h30 ok_a0) ⟨(Nat.le_of_ble_eq_true rfl), (Nat.le_of_ble_eq_true rfl)⟩ G w k_a0.1 k_a0.2 rfl rfl hl.1 (Nat.le_of_ble_eq_true rfl) (dcs_get dec_X12_planDay_0 33 rfl) ⟨Nat.le_refl _, Nat.le_refl _⟩) G w (fun H locs w => ?_)
      refine lv_istore_n (lv' := [(3, .int v31), (0, .ref (ad a0)), (2, .int l2)]) G.hx G.hb (dcs_get dec_X12_planDay_0 34 rfl) rfl hl (by decide) rfl (fun ls hl => ?_)
      refine lv_iconst (v := (0 : Int32)) G.hx G.hb (dcs_get dec_X12_planDay_0 35 rfl) (by decide) ?_
      refine lv_istore (lv' := [(4, .int (0 : Int32)), (3, .int v31), (0, .ref (ad a0)), (2, .int l2)]) G.hx G.hb (dcs_get dec_X12_planDay_0 36 rfl) hl (by decide) rfl (fun ls hl => ?_)
      exact B_X12_planDay_63 a0 l2 v31 (0 : Int32) σ G hm ok_a0 hf hb0 hr w (lv_sub hl [2, 3, 1, 0] rfl)
    · rw [if_pos hc] at hf
      refine lv_goto (tgt := 158) G.hx G.hb (dcs_get dec_X12_planDay_0 30 rfl) (by decide) ?_
      exact B_X12_planDay_158 a0 l2 σ G hm ok_a0 hf hb0 hr w (lv_sub hl [0, 1] rfl)
set_option maxRecDepth 100000 in
set_option maxHeartbeats 4000000 in
theorem H_X12_planDay_28 {σ0 : hSt} (a0 : Nat) (G : Gx p m c cX12_planDay 7 s args RX12 D ay NM ad (aN NM ad)) (hm : meth.sig.returnType = none ∧ meth.locks = false) (ok_a0 : okr kM NM 12 a0 = true)  : ∀ (k : Nat) (v : Int32 × hSt), lp (S_X12_planDay_28 a0) k v = some σ0 → ∀ (H : Heap) (locs : List Loc) (ls : Array Slot), Wd D ay kM NM ad (aN NM ad) s v.2 H locs → lv_has ls 7 [(0, .ref (ad a0)), (2, .int v.1)] → W p l e (rmK 4 102) s m args below meth c H locs 0 0 (MQ below (cV D ay kM NM ad σ0) args s 0 0 (aN NM ad)) (F0 m 28 ls []) := by
  intro k
  induction k with
  | zero => intro v hf; cases hf
  | succ k ih =>
    intro v hf H locs ls w hl
    obtain ⟨o1, h1, h2, h3⟩ := lp_some hf
    exact B_X12_planDay_28b a0 v.1 v.2 G hm ok_a0 h1  (fun v' e => ih v' (h2 v' e)) (fun x e => h3 x e) w hl
set_option maxRecDepth 100000 in
set_option maxHeartbeats 4000000 in
theorem B_X12_planDay_28 {H : Heap} {locs : List Loc} {ls : Array Slot} {σ0 : hSt} (a0 : Nat) (l2 : Int32) (σ : hSt) (G : Gx p m c cX12_planDay 7 s args RX12 D ay NM ad (aN NM ad)) (hm : meth.sig.returnType = none ∧ meth.locks = false) (ok_a0 : okr kM NM 12 a0 = true) (hf : F_X12_planDay_28 a0 l2 σ = some σ0)  (w : Wd D ay kM NM ad (aN NM ad) s σ H locs) (hl : lv_has ls 7 [(0, .ref (ad a0)), (2, .int l2)]) : W p l e (rmK 4 102) s m args below meth c H locs 0 0 (MQ below (cV D ay kM NM ad σ0) args s 0 0 (aN NM ad)) (F0 m 28 ls []) := by
  unfold F_X12_planDay_28 at hf
  exact H_X12_planDay_28 a0  G hm ok_a0  fuel (l2, σ) hf _ _ _ w hl
set_option maxRecDepth 100000 in
set_option maxHeartbeats 4000000 in
theorem B_X12_planDay_7b {H : Heap} {locs : List Loc} {ls : Array Slot} {σ0 : hSt} {o : (Int32 × hSt) ⊕ (hSt)} (a0 : Nat) (l2 : Int32) (σ : hSt) (G : Gx p m c cX12_planDay 7 s args RX12 D ay NM ad (aN NM ad)) (hm : meth.sig.returnType = none ∧ meth.locks = false) (ok_a0 : okr kM NM 12 a0 = true) (hf : F_X12_planDay_7b a0 l2 σ = some o) (hb0 : ∀ (v : Int32 × hSt), o = .inl v → ∀ (H : Heap) (locs : List Loc) (ls : Array Slot), Wd D ay kM NM ad (aN NM ad) s v.2 H locs → lv_has ls 7 [(0, .ref (ad a0)), (2, .int v.1)] → W p l e (rmK 4 102) s m args below meth c H locs 0 0 (MQ below (cV D ay kM NM ad σ0) args s 0 0 (aN NM ad)) (F0 m 7 ls [])) (hr : ∀ x, o = .inr (x) → x = σ0) (w : Wd D ay kM NM ad (aN NM ad) s σ H locs) (hl : lv_has ls 7 [(0, .ref (ad a0)), (2, .int l2)]) : W p l e (rmK 4 102) s m args below meth c H locs 0 0 (MQ below (cV D ay kM NM ad σ0) args s 0 0 (aN NM ad)) (F0 m 7 ls []) := by
  have k_a0 := okr_in ok_a0
  unfold F_X12_planDay_7b at hf
  refine lv_iload_n G.hx G.hb (dcs_get dec_X12_planDay_0 5 rfl) rfl (lv_at hl 1 rfl) ?_
  refine lv_bipush (v := (64 : Int32)) G.hx G.hb (dcs_get dec_X12_planDay_0 6 rfl) (by decide) ?_
  refine lv_icmp_ge (tgt := 26) G.hx G.hb (dcs_get dec_X12_planDay_0 7 rfl) (by decide) (fun hc => ?_) (fun hc => ?_)
  · rw [if_pos hc] at hf
    refine lv_iconst (v := (0 : Int32)) G.hx G.hb (dcs_get dec_X12_planDay_0 15 rfl) (by decide) ?_
    refine lv_istore_n (lv' := [(2, .int (0 : Int32)), (0, .ref (ad a0))]) G.hx G.hb (dcs_get dec_X12_planDay_0 16 rfl) rfl hl (by decide) rfl (fun ls hl => ?_)
    obtain ⟨x9, h9, e9⟩ := map_some_inv hf
    subst e9
    have e8 := hr _ rfl
    rw [e8] at h9
    exact B_X12_planDay_28 a0 (0 : Int32) σ G hm ok_a0 h9 w (lv_sub hl [1, 0] rfl)
  · rw [if_neg hc] at hf
    refine lv_aload_n G.hx G.hb (dcs_get dec_X12_planDay_0 8 rfl) rfl (lv_at hl 0 rfl) ?_
    obtain ⟨z32, e_z32, ok_z32, hf⟩ := cR_some hf
    have k_z32 := okr_in ok_z32
    refine r_getr (k := 60) cls12 fi_12_60.1 fi_12_60.2 q_1068 G w k_a0.1 k_a0.2 e_z32 (dcs_get dec_X12_planDay_0 9 rfl) ?_
    refine lv_iload_n G.hx G.hb (dcs_get dec_X12_planDay_0 10 rfl) rfl (lv_at hl 1 rfl) ?_
    refine lv_iconst (v := (-1 : Int32)) G.hx G.hb (dcs_get dec_X12_planDay_0 11 rfl) (by decide) ?_
    obtain ⟨h33, hf⟩ := cG_some hf
    obtain ⟨σ34, e_σ34, hf⟩ := cL_some hf
    refine r_iast G w k_z32.1 k_z32.2 h33 (dcs_get dec_X12_planDay_0 12 rfl) (fun H locs w => ?_)
    have w := Wd.nm e_σ34 w
    obtain ⟨v35, e_v35, hf⟩ := cL_some hf
    refine lv_iinc (v := v35) (lv' := [(2, .int v35), (0, .ref (ad a0))]) G.hx G.hb (dcs_get dec_X12_planDay_0 13 rfl) hl (k := 1) rfl (by rw [e_v35]; rfl) (by decide) rfl (fun ls hl => ?_)
    refine lv_goto (tgt := 7) G.hx G.hb (dcs_get dec_X12_planDay_0 14 rfl) (by decide) ?_
    exact hb0 _ (Option.some.inj hf).symm _ _ _ w (lv_sub hl [1, 0] rfl)
set_option maxRecDepth 100000 in
set_option maxHeartbeats 4000000 in
theorem H_X12_planDay_7 {σ0 : hSt} (a0 : Nat) (G : Gx p m c cX12_planDay 7 s args RX12 D ay NM ad (aN NM ad)) (hm : meth.sig.returnType = none ∧ meth.locks = false) (ok_a0 : okr kM NM 12 a0 = true)  : ∀ (k : Nat) (v : Int32 × hSt), lp (S_X12_planDay_7 a0) k v = some σ0 → ∀ (H : Heap) (locs : List Loc) (ls : Array Slot), Wd D ay kM NM ad (aN NM ad) s v.2 H locs → lv_has ls 7 [(0, .ref (ad a0)), (2, .int v.1)] → W p l e (rmK 4 102) s m args below meth c H locs 0 0 (MQ below (cV D ay kM NM ad σ0) args s 0 0 (aN NM ad)) (F0 m 7 ls []) := by
  intro k
  induction k with
  | zero => intro v hf; cases hf
  | succ k ih =>
    intro v hf H locs ls w hl
    obtain ⟨o1, h1, h2, h3⟩ := lp_some hf
    exact B_X12_planDay_7b a0 v.1 v.2 G hm ok_a0 h1  (fun v' e => ih v' (h2 v' e)) (fun x e => h3 x e) w hl
set_option maxRecDepth 100000 in
set_option maxHeartbeats 4000000 in
theorem B_X12_planDay_7 {H : Heap} {locs : List Loc} {ls : Array Slot} {σ0 : hSt} (a0 : Nat) (l2 : Int32) (σ : hSt) (G : Gx p m c cX12_planDay 7 s args RX12 D ay NM ad (aN NM ad)) (hm : meth.sig.returnType = none ∧ meth.locks = false) (ok_a0 : okr kM NM 12 a0 = true) (hf : F_X12_planDay_7 a0 l2 σ = some σ0)  (w : Wd D ay kM NM ad (aN NM ad) s σ H locs) (hl : lv_has ls 7 [(0, .ref (ad a0)), (2, .int l2)]) : W p l e (rmK 4 102) s m args below meth c H locs 0 0 (MQ below (cV D ay kM NM ad σ0) args s 0 0 (aN NM ad)) (F0 m 7 ls []) := by
  unfold F_X12_planDay_7 at hf
  exact H_X12_planDay_7 a0  G hm ok_a0  fuel (l2, σ) hf _ _ _ w hl
set_option maxRecDepth 100000 in
set_option maxHeartbeats 4000000 in
theorem B_X12_planDay_0 {H : Heap} {locs : List Loc} {ls : Array Slot} {σ0 : hSt} (a0 : Nat) (l1 : Int32) (σ : hSt) (G : Gx p m c cX12_planDay 7 s args RX12 D ay NM ad (aN NM ad)) (hm : meth.sig.returnType = none ∧ meth.locks = false) (ok_a0 : okr kM NM 12 a0 = true) (hf : F_X12_planDay a0 l1 σ = some σ0)  (w : Wd D ay kM NM ad (aN NM ad) s σ H locs) (hl : lv_has ls 7 [(0, .ref (ad a0)), (1, .int l1)]) : W p l e (rmK 4 102) s m args below meth c H locs 0 0 (MQ below (cV D ay kM NM ad σ0) args s 0 0 (aN NM ad)) (F0 m 0 ls []) := by
  have k_a0 := okr_in ok_a0
  unfold F_X12_planDay at hf
  refine lv_aload_n G.hx G.hb (dcs_get dec_X12_planDay_0 0 rfl) rfl (lv_at hl 0 rfl) ?_
  refine lv_iload_n G.hx G.hb (dcs_get dec_X12_planDay_0 1 rfl) rfl (lv_at hl 1 rfl) ?_
  obtain ⟨σ37, h36, hf⟩ := cB_some hf
  refine a_v (k_V (As := [.int l1]) (rest := []) cls12 lb_X12_fillsHearers lv_X12_fillsHearers q_1400 (C_X12_fillsHearers G.2.2.1 a0 l1 σ h36 ok_a0) ⟨(Nat.le_of_ble_eq_true rfl), (Nat.le_of_ble_eq_true rfl)⟩ G w k_a0.1 k_a0.2 rfl rfl hl.1 (Nat.le_of_ble_eq_true rfl) (dcs_get dec_X12_planDay_0 2 rfl) ⟨Nat.le_refl _, Nat.le_refl _⟩) G w (fun H locs w => ?_)
  refine lv_iconst (v := (0 : Int32)) G.hx G.hb (dcs_get dec_X12_planDay_0 3 rfl) (by decide) ?_
  refine lv_istore_n (lv' := [(2, .int (0 : Int32)), (0, .ref (ad a0)), (1, .int l1)]) G.hx G.hb (dcs_get dec_X12_planDay_0 4 rfl) rfl hl (by decide) rfl (fun ls hl => ?_)
  exact B_X12_planDay_7 a0 (0 : Int32) σ37 G hm ok_a0 hf  w (lv_sub hl [1, 0] rfl)
end
set_option maxRecDepth 100000 in
set_option maxHeartbeats 4000000 in
theorem C_X12_planDay {l : Launch} {D : va_G} {ay : Nat → ClassId} {ad : Nat → Nat} (hi : hInj NM ad) (a0 : Nat) (l1 : Int32) (σ : hSt) {σ0 : hSt} (hf : F_X12_planDay a0 l1 σ = some σ0) (ok_a0 : okr kM NM 12 a0 = true) : hM l D ay kM NM ad yX12_planDay cX12_planDay 7 (none) (rmK 4 102) [.ref (ad a0), .int l1] σ (cV D ay kM NM ad σ0) := by
  refine hM_in (by decide) hi (Nat.le_of_ble_eq_true rfl) ?_
  intro p e s m below meth c G hm w ls hl
  exact B_X12_planDay_0 a0 l1 σ G hm ok_a0 hf w (lv_sub hl [0, 1] rfl)

/-! HillDrumsModel.isReached(I)Z -/
def DL_X12_isReached_0 : List (Nat × Instr × Nat) := [(0, .iconst 0, 1), (1, .istore_n 2, 1), (2, .iload_n 2, 1), (3, .bipush 64, 2), (5, .if_icmp .ge 27, 3), (8, .aload_n 0, 1), (9, .getfield 134, 3), (12, .iload_n 2, 1), (13, .iaload, 1), (14, .ifCond .lt 12, 3), (17, .iload_n 2, 1), (18, .iload_n 1, 1), (19, .iand, 1), (20, .iload_n 1, 1), (21, .if_icmp .ne 5, 3), (24, .iconst 1, 1), (25, .ireturn, 1), (26, .iinc 2 1, 3), (29, .goto (-27), 3), (32, .iconst 0, 1), (33, .ireturn, 1)]
set_option maxRecDepth 100000 in
theorem dec_X12_isReached_0 : dcs cX12_isReached DL_X12_isReached_0 = true := by decide +kernel
theorem lb_X12_isReached : lkB yX12_isReached cX12_isReached 3 ((some .boolean)) 1 := ⟨q_1491, q_14, ⟨by decide, by decide⟩, by decide +kernel⟩
theorem lv_X12_isReached : lkV yX12_isReached := ⟨q_1490, qs_114⟩
def F_X12_isReached_26 (a0 : Nat) (l1 : Int32) (l2 : Int32) (σ : hSt) : Option ((Int32) ⊕ (Int32)) :=
cL (l2 + (1 : Int32)) fun v1 =>
some (.inl (v1))
def F_X12_isReached_2b (a0 : Nat) (l1 : Int32) (l2 : Int32) (σ : hSt) : Option ((Int32) ⊕ (Int32)) :=
if (64 : Int32) ≤ l2 then (
some (.inr ((0 : Int32)))) else (
cR (σ.2.2 a0 59) (okr kM NM 101) fun z2 =>
cG (inb l2 (kM z2).2) <|
if (σ.1 z2 l2.toNatClampNeg) < 0 then (
F_X12_isReached_26 a0 l1 l2 σ) else (
if (l2 &&& l1) = l1 then (
some (.inr ((1 : Int32)))) else (
F_X12_isReached_26 a0 l1 l2 σ)))
def S_X12_isReached_2 (a0 : Nat) (l1 : Int32) (σ : hSt) (v : Int32) : Option ((Int32) ⊕ (Int32)) := F_X12_isReached_2b a0 l1 v σ
def F_X12_isReached_2 (a0 : Nat) (l1 : Int32) (l2 : Int32) (σ : hSt) : Option (Int32) := lp (S_X12_isReached_2 a0 l1 σ) fuel (l2)
def F_X12_isReached (a0 : Nat) (l1 : Int32) (σ : hSt) : Option (Int32) :=
F_X12_isReached_2 a0 l1 (0 : Int32) σ
section
variable {p : Program} {l : Launch} {e : Env} {s : State} {m : MethodId} {args : Array Value} {below : List Frame} {meth : Method} {c : Code} {D : va_G} {ay : Nat → ClassId} {ad : Nat → Nat}
set_option maxRecDepth 100000 in
set_option maxHeartbeats 4000000 in
theorem B_X12_isReached_26 {H : Heap} {locs : List Loc} {ls : Array Slot} {r0 : Int32} {o : (Int32) ⊕ (Int32)} (a0 : Nat) (l1 : Int32) (l2 : Int32) (σ : hSt) (G : Gx p m c cX12_isReached 3 s args RX12 D ay NM ad (aN NM ad)) (hm : meth.sig.returnType = (some .boolean) ∧ meth.locks = false) (ok_a0 : okr kM NM 12 a0 = true) (hf : F_X12_isReached_26 a0 l1 l2 σ = some o) (hb0 : ∀ (v : Int32), o = .inl v → ∀ (H : Heap) (locs : List Loc) (ls : Array Slot), Wd D ay kM NM ad (aN NM ad) s σ H locs → lv_has ls 3 [(0, .ref (ad a0)), (1, .int l1), (2, .int v)] → W p l e (rmK 0 0) s m args below meth c H locs 0 0 (MQ below (cI D ay kM NM ad r0 σ) args s 0 0 (aN NM ad)) (F0 m 2 ls [])) (hr : ∀ x, o = .inr (x) → x = r0) (w : Wd D ay kM NM ad (aN NM ad) s σ H locs) (hl : lv_has ls 3 [(0, .ref (ad a0)), (1, .int l1), (2, .int l2)]) : W p l e (rmK 0 0) s m args below meth c H locs 0 0 (MQ below (cI D ay kM NM ad r0 σ) args s 0 0 (aN NM ad)) (F0 m 26 ls []) := by
  have k_a0 := okr_in ok_a0
  unfold F_X12_isReached_26 at hf
  obtain ⟨v1, e_v1, hf⟩ := cL_some hf
  refine lv_iinc (v := v1) (lv' := [(2, .int v1), (0, .ref (ad a0)), (1, .int l1)]) G.hx G.hb (dcs_get dec_X12_isReached_0 17 rfl) hl (k := 2) rfl (by rw [e_v1]; rfl) (by decide) rfl (fun ls hl => ?_)
  refine lv_goto (tgt := 2) G.hx G.hb (dcs_get dec_X12_isReached_0 18 rfl) (by decide) ?_
  exact hb0 _ (Option.some.inj hf).symm _ _ _ w (lv_sub hl [1, 2, 0] rfl)
set_option maxRecDepth 100000 in
set_option maxHeartbeats 4000000 in
theorem B_X12_isReached_2b {H : Heap} {locs : List Loc} {ls : Array Slot} {r0 : Int32} {o : (Int32) ⊕ (Int32)} (a0 : Nat) (l1 : Int32) (l2 : Int32) (σ : hSt) (G : Gx p m c cX12_isReached 3 s args RX12 D ay NM ad (aN NM ad)) (hm : meth.sig.returnType = (some .boolean) ∧ meth.locks = false) (ok_a0 : okr kM NM 12 a0 = true) (hf : F_X12_isReached_2b a0 l1 l2 σ = some o) (hb0 : ∀ (v : Int32), o = .inl v → ∀ (H : Heap) (locs : List Loc) (ls : Array Slot), Wd D ay kM NM ad (aN NM ad) s σ H locs → lv_has ls 3 [(0, .ref (ad a0)), (1, .int l1), (2, .int v)] → W p l e (rmK 0 0) s m args below meth c H locs 0 0 (MQ below (cI D ay kM NM ad r0 σ) args s 0 0 (aN NM ad)) (F0 m 2 ls [])) (hr : ∀ x, o = .inr (x) → x = r0) (w : Wd D ay kM NM ad (aN NM ad) s σ H locs) (hl : lv_has ls 3 [(0, .ref (ad a0)), (1, .int l1), (2, .int l2)]) : W p l e (rmK 0 0) s m args below meth c H locs 0 0 (MQ below (cI D ay kM NM ad r0 σ) args s 0 0 (aN NM ad)) (F0 m 2 ls []) := by
  have k_a0 := okr_in ok_a0
  unfold F_X12_isReached_2b at hf
  refine lv_iload_n G.hx G.hb (dcs_get dec_X12_isReached_0 2 rfl) rfl (lv_at hl 2 rfl) ?_
  refine lv_bipush (v := (64 : Int32)) G.hx G.hb (dcs_get dec_X12_isReached_0 3 rfl) (by decide) ?_
  refine lv_icmp_ge (tgt := 32) G.hx G.hb (dcs_get dec_X12_isReached_0 4 rfl) (by decide) (fun hc => ?_) (fun hc => ?_)
  · rw [if_pos hc] at hf
    refine lv_iconst (v := (0 : Int32)) G.hx G.hb (dcs_get dec_X12_isReached_0 19 rfl) (by decide) ?_
    have e9 := hr _ (Option.some.inj hf).symm
    exact r_zret rfl G w hm e9 rfl (dcs_get dec_X12_isReached_0 20 rfl)
  · rw [if_neg hc] at hf
    refine lv_aload_n G.hx G.hb (dcs_get dec_X12_isReached_0 5 rfl) rfl (lv_at hl 0 rfl) ?_
    obtain ⟨z2, e_z2, ok_z2, hf⟩ := cR_some hf
    have k_z2 := okr_in ok_z2
    refine r_getr (k := 59) cls12 fi_12_59.1 fi_12_59.2 q_1067 G w k_a0.1 k_a0.2 e_z2 (dcs_get dec_X12_isReached_0 6 rfl) ?_
    refine lv_iload_n G.hx G.hb (dcs_get dec_X12_isReached_0 7 rfl) rfl (lv_at hl 2 rfl) ?_
    obtain ⟨h3, hf⟩ := cG_some hf
    refine r_iald G w k_z2.1 k_z2.2 h3 (dcs_get dec_X12_isReached_0 8 rfl) ?_
    refine lv_if_lt (tgt := 26) G.hx G.hb (dcs_get dec_X12_isReached_0 9 rfl) (by decide) (fun hc => ?_) (fun hc => ?_)
    · rw [if_pos hc] at hf
      exact B_X12_isReached_26 a0 l1 l2 σ G hm ok_a0 hf hb0 hr w (lv_sub hl [0, 1, 2] rfl)
    · rw [if_neg hc] at hf
      refine lv_iload_n G.hx G.hb (dcs_get dec_X12_isReached_0 10 rfl) rfl (lv_at hl 2 rfl) ?_
      refine lv_iload_n G.hx G.hb (dcs_get dec_X12_isReached_0 11 rfl) rfl (lv_at hl 1 rfl) ?_
      refine lv_iand G.hx G.hb (dcs_get dec_X12_isReached_0 12 rfl) ?_
      refine lv_iload_n G.hx G.hb (dcs_get dec_X12_isReached_0 13 rfl) rfl (lv_at hl 1 rfl) ?_
      refine lv_icmp_ne (tgt := 26) G.hx G.hb (dcs_get dec_X12_isReached_0 14 rfl) (by decide) (fun hc => ?_) (fun hc => ?_)
      · rw [if_neg hc] at hf
        exact B_X12_isReached_26 a0 l1 l2 σ G hm ok_a0 hf hb0 hr w (lv_sub hl [0, 1, 2] rfl)
      · rw [if_pos hc] at hf
        refine lv_iconst (v := (1 : Int32)) G.hx G.hb (dcs_get dec_X12_isReached_0 15 rfl) (by decide) ?_
        have e9 := hr _ (Option.some.inj hf).symm
        exact r_zret rfl G w hm e9 rfl (dcs_get dec_X12_isReached_0 16 rfl)
set_option maxRecDepth 100000 in
set_option maxHeartbeats 4000000 in
theorem H_X12_isReached_2 {r0 : Int32} (a0 : Nat) (l1 : Int32) (σ : hSt) (G : Gx p m c cX12_isReached 3 s args RX12 D ay NM ad (aN NM ad)) (hm : meth.sig.returnType = (some .boolean) ∧ meth.locks = false) (ok_a0 : okr kM NM 12 a0 = true)  : ∀ (k : Nat) (v : Int32), lp (S_X12_isReached_2 a0 l1 σ) k v = some r0 → ∀ (H : Heap) (locs : List Loc) (ls : Array Slot), Wd D ay kM NM ad (aN NM ad) s σ H locs → lv_has ls 3 [(0, .ref (ad a0)), (1, .int l1), (2, .int v)] → W p l e (rmK 0 0) s m args below meth c H locs 0 0 (MQ below (cI D ay kM NM ad r0 σ) args s 0 0 (aN NM ad)) (F0 m 2 ls []) := by
  intro k
  induction k with
  | zero => intro v hf; cases hf
  | succ k ih =>
    intro v hf H locs ls w hl
    obtain ⟨o1, h1, h2, h3⟩ := lp_some hf
    exact B_X12_isReached_2b a0 l1 v σ G hm ok_a0 h1  (fun v' e => ih v' (h2 v' e)) (fun x e => h3 x e) w hl
set_option maxRecDepth 100000 in
set_option maxHeartbeats 4000000 in
theorem B_X12_isReached_2 {H : Heap} {locs : List Loc} {ls : Array Slot} {r0 : Int32} (a0 : Nat) (l1 : Int32) (l2 : Int32) (σ : hSt) (G : Gx p m c cX12_isReached 3 s args RX12 D ay NM ad (aN NM ad)) (hm : meth.sig.returnType = (some .boolean) ∧ meth.locks = false) (ok_a0 : okr kM NM 12 a0 = true) (hf : F_X12_isReached_2 a0 l1 l2 σ = some r0)  (w : Wd D ay kM NM ad (aN NM ad) s σ H locs) (hl : lv_has ls 3 [(0, .ref (ad a0)), (1, .int l1), (2, .int l2)]) : W p l e (rmK 0 0) s m args below meth c H locs 0 0 (MQ below (cI D ay kM NM ad r0 σ) args s 0 0 (aN NM ad)) (F0 m 2 ls []) := by
  unfold F_X12_isReached_2 at hf
  exact H_X12_isReached_2 a0 l1 σ G hm ok_a0  fuel (l2) hf _ _ _ w hl
set_option maxRecDepth 100000 in
set_option maxHeartbeats 4000000 in
theorem B_X12_isReached_0 {H : Heap} {locs : List Loc} {ls : Array Slot} {r0 : Int32} (a0 : Nat) (l1 : Int32) (σ : hSt) (G : Gx p m c cX12_isReached 3 s args RX12 D ay NM ad (aN NM ad)) (hm : meth.sig.returnType = (some .boolean) ∧ meth.locks = false) (ok_a0 : okr kM NM 12 a0 = true) (hf : F_X12_isReached a0 l1 σ = some r0)  (w : Wd D ay kM NM ad (aN NM ad) s σ H locs) (hl : lv_has ls 3 [(0, .ref (ad a0)), (1, .int l1)]) : W p l e (rmK 0 0) s m args below meth c H locs 0 0 (MQ below (cI D ay kM NM ad r0 σ) args s 0 0 (aN NM ad)) (F0 m 0 ls []) := by
  have k_a0 := okr_in ok_a0
  unfold F_X12_isReached at hf
  refine lv_iconst (v := (0 : Int32)) G.hx G.hb (dcs_get dec_X12_isReached_0 0 rfl) (by decide) ?_
  refine lv_istore_n (lv' := [(2, .int (0 : Int32)), (0, .ref (ad a0)), (1, .int l1)]) G.hx G.hb (dcs_get dec_X12_isReached_0 1 rfl) rfl hl (by decide) rfl (fun ls hl => ?_)
  exact B_X12_isReached_2 a0 l1 (0 : Int32) σ G hm ok_a0 hf  w (lv_sub hl [1, 2, 0] rfl)
end
set_option maxRecDepth 100000 in
set_option maxHeartbeats 4000000 in
theorem C_X12_isReached {l : Launch} {D : va_G} {ay : Nat → ClassId} {ad : Nat → Nat} (hi : hInj NM ad) (a0 : Nat) (l1 : Int32) (σ : hSt) {r0 : Int32} (hf : F_X12_isReached a0 l1 σ = some r0) (ok_a0 : okr kM NM 12 a0 = true) : hM l D ay kM NM ad yX12_isReached cX12_isReached 3 ((some .boolean)) (rmK 0 0) [.ref (ad a0), .int l1] σ (cI D ay kM NM ad r0 σ) := by
  refine hM_in (by decide) hi (Nat.le_of_ble_eq_true rfl) ?_
  intro p e s m below meth c G hm w ls hl
  exact B_X12_isReached_0 a0 l1 σ G hm ok_a0 hf w (lv_sub hl [0, 1] rfl)

/-! HillDrumsModel.daysTo(II)I -/
def DL_X12_daysTo_0 : List (Nat × Instr × Nat) := [(0, .aload_n 0, 1), (1, .iload_n 1, 1), (2, .invokevirtual 408, 3), (5, .iconst 0, 1), (6, .istore_n 3, 1), (7, .iload_n 3, 1), (8, .bipush 60, 2), (10, .if_icmp .gt 34, 3), (13, .aload_n 0, 1), (14, .iload_n 2, 1), (15, .invokevirtual 411, 3), (18, .ifCond .eq 5, 3), (21, .iload_n 3, 1), (22, .ireturn, 1), (23, .aload_n 0, 1), (24, .aload_n 0, 1), (25, .getfield 125, 3), (28, .bipush 120, 2), (30, .iaload, 1), (31, .iconst 1, 1), (32, .iadd, 1), (33, .iload_n 3, 1), (34, .iadd, 1), (35, .invokevirtual 414, 3), (38, .iinc 3 1, 3), (41, .goto (-34), 3), (44, .bipush (-2), 2), (46, .ireturn, 1)]
set_option maxRecDepth 100000 in
theorem dec_X12_daysTo_0 : dcs cX12_daysTo DL_X12_daysTo_0 = true := by decide +kernel
theorem lb_X12_daysTo : lkB yX12_daysTo cX12_daysTo 4 ((some .int)) 2 := ⟨q_1483, q_14, ⟨by decide, by decide⟩, by decide +kernel⟩
theorem lv_X12_daysTo : lkV yX12_daysTo := ⟨q_1482, qs_112⟩
def F_X12_daysTo_7b (a0 : Nat) (l2 : Int32) (l3 : Int32) (σ : hSt) : Option ((Int32 × hSt) ⊕ (Int32 × hSt)) :=
if (60 : Int32) < l3 then (
some (.inr (((-2 : Int32), σ)))) else (
(F_X12_isReached a0 l2 σ).bind fun v2 =>
if v2 = 0 then (
cR (σ.2.2 a0 53) (okr kM NM 101) fun z3 =>
cG (inb (120 : Int32) (kM z3).2) <|
(F_X12_planDay a0 (((σ.1 z3 (120 : Int32).toNatClampNeg) + (1 : Int32)) + l3) σ).bind fun σ6 =>
cL (l3 + (1 : Int32)) fun v7 =>
some (.inl (v7, σ6))) else (
some (.inr ((l3, σ)))))
def S_X12_daysTo_7 (a0 : Nat) (l2 : Int32) (v : Int32 × hSt) : Option ((Int32 × hSt) ⊕ (Int32 × hSt)) := F_X12_daysTo_7b a0 l2 v.1 v.2
def F_X12_daysTo_7 (a0 : Nat) (l2 : Int32) (l3 : Int32) (σ : hSt) : Option (Int32 × hSt) := lp (S_X12_daysTo_7 a0 l2) fuel (l3, σ)
def F_X12_daysTo (a0 : Nat) (l1 : Int32) (l2 : Int32) (σ : hSt) : Option (Int32 × hSt) :=
(F_X12_startsPlan a0 l1 σ).bind fun σ9 =>
F_X12_daysTo_7 a0 l2 (0 : Int32) σ9
section
variable {p : Program} {l : Launch} {e : Env} {s : State} {m : MethodId} {args : Array Value} {below : List Frame} {meth : Method} {c : Code} {D : va_G} {ay : Nat → ClassId} {ad : Nat → Nat}
set_option maxRecDepth 100000 in
set_option maxHeartbeats 4000000 in
theorem B_X12_daysTo_7b {H : Heap} {locs : List Loc} {ls : Array Slot} {r0 : Int32} {σ0 : hSt} {o : (Int32 × hSt) ⊕ (Int32 × hSt)} (a0 : Nat) (l2 : Int32) (l3 : Int32) (σ : hSt) (G : Gx p m c cX12_daysTo 4 s args RX12 D ay NM ad (aN NM ad)) (hm : meth.sig.returnType = (some .int) ∧ meth.locks = false) (ok_a0 : okr kM NM 12 a0 = true) (hf : F_X12_daysTo_7b a0 l2 l3 σ = some o) (hb0 : ∀ (v : Int32 × hSt), o = .inl v → ∀ (H : Heap) (locs : List Loc) (ls : Array Slot), Wd D ay kM NM ad (aN NM ad) s v.2 H locs → lv_has ls 4 [(0, .ref (ad a0)), (2, .int l2), (3, .int v.1)] → W p l e (rmK 5 128) s m args below meth c H locs 0 0 (MQ below (cI D ay kM NM ad r0 σ0) args s 0 0 (aN NM ad)) (F0 m 7 ls [])) (hr : ∀ x, o = .inr (x) → x = (r0, σ0)) (w : Wd D ay kM NM ad (aN NM ad) s σ H locs) (hl : lv_has ls 4 [(0, .ref (ad a0)), (2, .int l2), (3, .int l3)]) : W p l e (rmK 5 128) s m args below meth c H locs 0 0 (MQ below (cI D ay kM NM ad r0 σ0) args s 0 0 (aN NM ad)) (F0 m 7 ls []) := by
  have k_a0 := okr_in ok_a0
  unfold F_X12_daysTo_7b at hf
  refine lv_iload_n G.hx G.hb (dcs_get dec_X12_daysTo_0 5 rfl) rfl (lv_at hl 2 rfl) ?_
  refine lv_bipush (v := (60 : Int32)) G.hx G.hb (dcs_get dec_X12_daysTo_0 6 rfl) (by decide) ?_
  refine lv_icmp_gt (tgt := 44) G.hx G.hb (dcs_get dec_X12_daysTo_0 7 rfl) (by decide) (fun hc => ?_) (fun hc => ?_)
  · rw [if_pos hc] at hf
    refine lv_bipush (v := (-2 : Int32)) G.hx G.hb (dcs_get dec_X12_daysTo_0 26 rfl) (by decide) ?_
    have e9 := hr _ (Option.some.inj hf).symm
    exact r_iret G w hm (congrArg Prod.fst e9) (congrArg Prod.snd e9) (dcs_get dec_X12_daysTo_0 27 rfl)
  · rw [if_neg hc] at hf
    refine lv_aload_n G.hx G.hb (dcs_get dec_X12_daysTo_0 8 rfl) rfl (lv_at hl 0 rfl) ?_
    refine lv_iload_n G.hx G.hb (dcs_get dec_X12_daysTo_0 9 rfl) rfl (lv_at hl 1 rfl) ?_
    obtain ⟨v2, h1, hf⟩ := cB_some hf
    refine a_i (k_V (As := [.int l2]) (rest := []) cls12 lb_X12_isReached lv_X12_isReached q_1488 (C_X12_isReached G.2.2.1 a0 l2 σ h1 ok_a0) ⟨(Nat.le_of_ble_eq_true rfl), (Nat.le_of_ble_eq_true rfl)⟩ G w k_a0.1 k_a0.2 rfl rfl hl.1 (Nat.le_of_ble_eq_true rfl) (dcs_get dec_X12_daysTo_0 10 rfl) ⟨Nat.le_refl _, Nat.le_refl _⟩) G w (fun H locs w => ?_)
    refine lv_if_eq (tgt := 23) G.hx G.hb (dcs_get dec_X12_daysTo_0 11 rfl) (by decide) (fun hc => ?_) (fun hc => ?_)
    · rw [if_pos hc] at hf
      refine lv_aload_n G.hx G.hb (dcs_get dec_X12_daysTo_0 14 rfl) rfl (lv_at hl 0 rfl) ?_
      refine lv_aload_n G.hx G.hb (dcs_get dec_X12_daysTo_0 15 rfl) rfl (lv_at hl 0 rfl) ?_
      obtain ⟨z3, e_z3, ok_z3, hf⟩ := cR_some hf
      have k_z3 := okr_in ok_z3
      refine r_getr (k := 53) cls12 fi_12_53.1 fi_12_53.2 q_1061 G w k_a0.1 k_a0.2 e_z3 (dcs_get dec_X12_daysTo_0 16 rfl) ?_
      refine lv_bipush (v := (120 : Int32)) G.hx G.hb (dcs_get dec_X12_daysTo_0 17 rfl) (by decide) ?_
      obtain ⟨h4, hf⟩ := cG_some hf
      refine r_iald G w k_z3.1 k_z3.2 h4 (dcs_get dec_X12_daysTo_0 18 rfl) ?_
      refine lv_iconst (v := (1 : Int32)) G.hx G.hb (dcs_get dec_X12_daysTo_0 19 rfl) (by decide) ?_
      refine lv_iadd G.hx G.hb (dcs_get dec_X12_daysTo_0 20 rfl) ?_
      refine lv_iload_n G.hx G.hb (dcs_get dec_X12_daysTo_0 21 rfl) rfl (lv_at hl 2 rfl) ?_
      refine lv_iadd G.hx G.hb (dcs_get dec_X12_daysTo_0 22 rfl) ?_
      obtain ⟨σ6, h5, hf⟩ := cB_some hf
      refine a_v (k_V (As := [.int (((σ.1 z3 (120 : Int32).toNatClampNeg) + (1 : Int32)) + l3)]) (rest := []) cls12 lb_X12_planDay lv_X12_planDay q_1492 (C_X12_planDay G.2.2.1 a0 (((σ.1 z3 (120 : Int32).toNatClampNeg) + (1 : Int32)) + l3) σ h5 ok_a0) ⟨(Nat.le_of_ble_eq_true rfl), (Nat.le_of_ble_eq_true rfl)⟩ G w k_a0.1 k_a0.2 rfl rfl hl.1 (Nat.le_of_ble_eq_true rfl) (dcs_get dec_X12_daysTo_0 23 rfl) ⟨Nat.le_refl _, Nat.le_refl _⟩) G w (fun H locs w => ?_)
      obtain ⟨v7, e_v7, hf⟩ := cL_some hf
      refine lv_iinc (v := v7) (lv' := [(3, .int v7), (0, .ref (ad a0)), (2, .int l2)]) G.hx G.hb (dcs_get dec_X12_daysTo_0 24 rfl) hl (k := 2) rfl (by rw [e_v7]; rfl) (by decide) rfl (fun ls hl => ?_)
      refine lv_goto (tgt := 7) G.hx G.hb (dcs_get dec_X12_daysTo_0 25 rfl) (by decide) ?_
      exact hb0 _ (Option.some.inj hf).symm _ _ _ w (lv_sub hl [1, 2, 0] rfl)
    · rw [if_neg hc] at hf
      refine lv_iload_n G.hx G.hb (dcs_get dec_X12_daysTo_0 12 rfl) rfl (lv_at hl 2 rfl) ?_
      have e9 := hr _ (Option.some.inj hf).symm
      exact r_iret G w hm (congrArg Prod.fst e9) (congrArg Prod.snd e9) (dcs_get dec_X12_daysTo_0 13 rfl)
set_option maxRecDepth 100000 in
set_option maxHeartbeats 4000000 in
theorem H_X12_daysTo_7 {r0 : Int32} {σ0 : hSt} (a0 : Nat) (l2 : Int32) (G : Gx p m c cX12_daysTo 4 s args RX12 D ay NM ad (aN NM ad)) (hm : meth.sig.returnType = (some .int) ∧ meth.locks = false) (ok_a0 : okr kM NM 12 a0 = true)  : ∀ (k : Nat) (v : Int32 × hSt), lp (S_X12_daysTo_7 a0 l2) k v = some (r0, σ0) → ∀ (H : Heap) (locs : List Loc) (ls : Array Slot), Wd D ay kM NM ad (aN NM ad) s v.2 H locs → lv_has ls 4 [(0, .ref (ad a0)), (2, .int l2), (3, .int v.1)] → W p l e (rmK 5 128) s m args below meth c H locs 0 0 (MQ below (cI D ay kM NM ad r0 σ0) args s 0 0 (aN NM ad)) (F0 m 7 ls []) := by
  intro k
  induction k with
  | zero => intro v hf; cases hf
  | succ k ih =>
    intro v hf H locs ls w hl
    obtain ⟨o1, h1, h2, h3⟩ := lp_some hf
    exact B_X12_daysTo_7b a0 l2 v.1 v.2 G hm ok_a0 h1  (fun v' e => ih v' (h2 v' e)) (fun x e => h3 x e) w hl
set_option maxRecDepth 100000 in
set_option maxHeartbeats 4000000 in
theorem B_X12_daysTo_7 {H : Heap} {locs : List Loc} {ls : Array Slot} {r0 : Int32} {σ0 : hSt} (a0 : Nat) (l2 : Int32) (l3 : Int32) (σ : hSt) (G : Gx p m c cX12_daysTo 4 s args RX12 D ay NM ad (aN NM ad)) (hm : meth.sig.returnType = (some .int) ∧ meth.locks = false) (ok_a0 : okr kM NM 12 a0 = true) (hf : F_X12_daysTo_7 a0 l2 l3 σ = some (r0, σ0))  (w : Wd D ay kM NM ad (aN NM ad) s σ H locs) (hl : lv_has ls 4 [(0, .ref (ad a0)), (2, .int l2), (3, .int l3)]) : W p l e (rmK 5 128) s m args below meth c H locs 0 0 (MQ below (cI D ay kM NM ad r0 σ0) args s 0 0 (aN NM ad)) (F0 m 7 ls []) := by
  unfold F_X12_daysTo_7 at hf
  exact H_X12_daysTo_7 a0 l2  G hm ok_a0  fuel (l3, σ) hf _ _ _ w hl
set_option maxRecDepth 100000 in
set_option maxHeartbeats 4000000 in
theorem B_X12_daysTo_0 {H : Heap} {locs : List Loc} {ls : Array Slot} {r0 : Int32} {σ0 : hSt} (a0 : Nat) (l1 : Int32) (l2 : Int32) (σ : hSt) (G : Gx p m c cX12_daysTo 4 s args RX12 D ay NM ad (aN NM ad)) (hm : meth.sig.returnType = (some .int) ∧ meth.locks = false) (ok_a0 : okr kM NM 12 a0 = true) (hf : F_X12_daysTo a0 l1 l2 σ = some (r0, σ0))  (w : Wd D ay kM NM ad (aN NM ad) s σ H locs) (hl : lv_has ls 4 [(0, .ref (ad a0)), (1, .int l1), (2, .int l2)]) : W p l e (rmK 5 128) s m args below meth c H locs 0 0 (MQ below (cI D ay kM NM ad r0 σ0) args s 0 0 (aN NM ad)) (F0 m 0 ls []) := by
  have k_a0 := okr_in ok_a0
  unfold F_X12_daysTo at hf
  refine lv_aload_n G.hx G.hb (dcs_get dec_X12_daysTo_0 0 rfl) rfl (lv_at hl 0 rfl) ?_
  refine lv_iload_n G.hx G.hb (dcs_get dec_X12_daysTo_0 1 rfl) rfl (lv_at hl 1 rfl) ?_
  obtain ⟨σ9, h8, hf⟩ := cB_some hf
  refine a_v (k_V (As := [.int l1]) (rest := []) cls12 lb_X12_startsPlan lv_X12_startsPlan q_1484 (C_X12_startsPlan G.2.2.1 a0 l1 σ h8 ok_a0) ⟨(Nat.le_of_ble_eq_true rfl), (Nat.le_of_ble_eq_true rfl)⟩ G w k_a0.1 k_a0.2 rfl rfl hl.1 (Nat.le_of_ble_eq_true rfl) (dcs_get dec_X12_daysTo_0 2 rfl) ⟨Nat.le_refl _, Nat.le_refl _⟩) G w (fun H locs w => ?_)
  refine lv_iconst (v := (0 : Int32)) G.hx G.hb (dcs_get dec_X12_daysTo_0 3 rfl) (by decide) ?_
  refine lv_istore_n (lv' := [(3, .int (0 : Int32)), (0, .ref (ad a0)), (1, .int l1), (2, .int l2)]) G.hx G.hb (dcs_get dec_X12_daysTo_0 4 rfl) rfl hl (by decide) rfl (fun ls hl => ?_)
  exact B_X12_daysTo_7 a0 l2 (0 : Int32) σ9 G hm ok_a0 hf  w (lv_sub hl [1, 3, 0] rfl)
end
set_option maxRecDepth 100000 in
set_option maxHeartbeats 4000000 in
theorem C_X12_daysTo {l : Launch} {D : va_G} {ay : Nat → ClassId} {ad : Nat → Nat} (hi : hInj NM ad) (a0 : Nat) (l1 : Int32) (l2 : Int32) (σ : hSt) {r0 : Int32} {σ0 : hSt} (hf : F_X12_daysTo a0 l1 l2 σ = some (r0, σ0)) (ok_a0 : okr kM NM 12 a0 = true) : hM l D ay kM NM ad yX12_daysTo cX12_daysTo 4 ((some .int)) (rmK 5 128) [.ref (ad a0), .int l1, .int l2] σ (cI D ay kM NM ad r0 σ0) := by
  refine hM_in (by decide) hi (Nat.le_of_ble_eq_true rfl) ?_
  intro p e s m below meth c G hm w ls hl
  exact B_X12_daysTo_0 a0 l1 l2 σ G hm ok_a0 hf w (lv_sub hl [0, 1, 2] rfl)

/-! HillDrumsModel.soonest(II)I -/
def DL_X12_soonest_0 : List (Nat × Instr × Nat) := [(0, .aload_n 0, 1), (1, .iload_n 1, 1), (2, .invokevirtual 377, 3), (5, .ifCond .eq 22, 3), (8, .aload_n 0, 1), (9, .iload_n 2, 1), (10, .invokevirtual 342, 3), (13, .ifCond .eq 14, 3), (16, .aload_n 0, 1), (17, .iload_n 1, 1), (18, .iconst 1, 1), (19, .iload_n 2, 1), (20, .ishl, 1), (21, .invokevirtual 417, 3), (24, .goto 4, 3), (27, .iconst (-1), 1), (28, .ireturn, 1)]
set_option maxRecDepth 100000 in
theorem dec_X12_soonest_0 : dcs cX12_soonest DL_X12_soonest_0 = true := by decide +kernel
theorem lb_X12_soonest : lkB yX12_soonest cX12_soonest 3 ((some .int)) 2 := ⟨q_1479, q_14, ⟨by decide, by decide⟩, by decide +kernel⟩
theorem lv_X12_soonest : lkV yX12_soonest := ⟨q_1477, q_1478⟩
def F_X12_soonest_28 (s0 : Int32) (σ : hSt) : Option (Int32 × hSt) :=
some ((s0, σ))
def F_X12_soonest_27  (σ : hSt) : Option (Int32 × hSt) :=
F_X12_soonest_28 (-1 : Int32) σ
def F_X12_soonest (a0 : Nat) (l1 : Int32) (l2 : Int32) (σ : hSt) : Option (Int32 × hSt) :=
(F_X12_isNews a0 l1 σ).bind fun v2 =>
if v2 = 0 then (
F_X12_soonest_27  σ) else (
(F_X12_isHill a0 l2 σ).bind fun v4 =>
if v4 = 0 then (
F_X12_soonest_27  σ) else (
cC (F_X12_daysTo a0 l1 ((1 : Int32) <<< (l2 &&& 31)) σ) fun v6 σ7 =>
F_X12_soonest_28 v6 σ7))
section
variable {p : Program} {l : Launch} {e : Env} {s : State} {m : MethodId} {args : Array Value} {below : List Frame} {meth : Method} {c : Code} {D : va_G} {ay : Nat → ClassId} {ad : Nat → Nat}
set_option maxRecDepth 100000 in
set_option maxHeartbeats 4000000 in
theorem B_X12_soonest_28 {H : Heap} {locs : List Loc} {ls : Array Slot} {r0 : Int32} {σ0 : hSt} (s0 : Int32) (σ : hSt) (G : Gx p m c cX12_soonest 3 s args RX12 D ay NM ad (aN NM ad)) (hm : meth.sig.returnType = (some .int) ∧ meth.locks = false)  (hf : F_X12_soonest_28 s0 σ = some (r0, σ0))  (w : Wd D ay kM NM ad (aN NM ad) s σ H locs) (hl : lv_has ls 3 []) : W p l e (rmK 6 151) s m args below meth c H locs 0 0 (MQ below (cI D ay kM NM ad r0 σ0) args s 0 0 (aN NM ad)) (F0 m 28 ls [.int s0]) := by
  unfold F_X12_soonest_28 at hf
  have e9 := Option.some.inj hf
  exact r_iret G w hm (congrArg Prod.fst e9) (congrArg Prod.snd e9) (dcs_get dec_X12_soonest_0 16 rfl)
set_option maxRecDepth 100000 in
set_option maxHeartbeats 4000000 in
theorem B_X12_soonest_27 {H : Heap} {locs : List Loc} {ls : Array Slot} {r0 : Int32} {σ0 : hSt}  (σ : hSt) (G : Gx p m c cX12_soonest 3 s args RX12 D ay NM ad (aN NM ad)) (hm : meth.sig.returnType = (some .int) ∧ meth.locks = false)  (hf : F_X12_soonest_27  σ = some (r0, σ0))  (w : Wd D ay kM NM ad (aN NM ad) s σ H locs) (hl : lv_has ls 3 []) : W p l e (rmK 6 151) s m args below meth c H locs 0 0 (MQ below (cI D ay kM NM ad r0 σ0) args s 0 0 (aN NM ad)) (F0 m 27 ls []) := by
  unfold F_X12_soonest_27 at hf
  refine lv_iconst (v := (-1 : Int32)) G.hx G.hb (dcs_get dec_X12_soonest_0 15 rfl) (by decide) ?_
  exact B_X12_soonest_28 (-1 : Int32) σ G hm  hf  w (lv_sub hl [] rfl)
set_option maxRecDepth 100000 in
set_option maxHeartbeats 4000000 in
theorem B_X12_soonest_0 {H : Heap} {locs : List Loc} {ls : Array Slot} {r0 : Int32} {σ0 : hSt} (a0 : Nat) (l1 : Int32) (l2 : Int32) (σ : hSt) (G : Gx p m c cX12_soonest 3 s args RX12 D ay NM ad (aN NM ad)) (hm : meth.sig.returnType = (some .int) ∧ meth.locks = false) (ok_a0 : okr kM NM 12 a0 = true) (hf : F_X12_soonest a0 l1 l2 σ = some (r0, σ0))  (w : Wd D ay kM NM ad (aN NM ad) s σ H locs) (hl : lv_has ls 3 [(0, .ref (ad a0)), (1, .int l1), (2, .int l2)]) : W p l e (rmK 6 151) s m args below meth c H locs 0 0 (MQ below (cI D ay kM NM ad r0 σ0) args s 0 0 (aN NM ad)) (F0 m 0 ls []) := by
  have k_a0 := okr_in ok_a0
  unfold F_X12_soonest at hf
  refine lv_aload_n G.hx G.hb (dcs_get dec_X12_soonest_0 0 rfl) rfl (lv_at hl 0 rfl) ?_
  refine lv_iload_n G.hx G.hb (dcs_get dec_X12_soonest_0 1 rfl) rfl (lv_at hl 1 rfl) ?_
  obtain ⟨v2, h1, hf⟩ := cB_some hf
  refine a_i (k_V (As := [.int l1]) (rest := []) cls12 lb_X12_isNews lv_X12_isNews q_1376 (C_X12_isNews G.2.2.1 a0 l1 σ h1 ok_a0) ⟨(Nat.le_of_ble_eq_true rfl), (Nat.le_of_ble_eq_true rfl)⟩ G w k_a0.1 k_a0.2 rfl rfl hl.1 (Nat.le_of_ble_eq_true rfl) (dcs_get dec_X12_soonest_0 2 rfl) ⟨Nat.le_refl _, Nat.le_refl _⟩) G w (fun H locs w => ?_)
  refine lv_if_eq (tgt := 27) G.hx G.hb (dcs_get dec_X12_soonest_0 3 rfl) (by decide) (fun hc => ?_) (fun hc => ?_)
  · rw [if_pos hc] at hf
    exact B_X12_soonest_27  σ G hm  hf  w (lv_sub hl [] rfl)
  · rw [if_neg hc] at hf
    refine lv_aload_n G.hx G.hb (dcs_get dec_X12_soonest_0 4 rfl) rfl (lv_at hl 0 rfl) ?_
    refine lv_iload_n G.hx G.hb (dcs_get dec_X12_soonest_0 5 rfl) rfl (lv_at hl 2 rfl) ?_
    obtain ⟨v4, h3, hf⟩ := cB_some hf
    refine a_i (k_V (As := [.int l2]) (rest := []) cls12 lb_X12_isHill lv_X12_isHill q_1346 (C_X12_isHill G.2.2.1 a0 l2 σ h3 ok_a0) ⟨(Nat.le_of_ble_eq_true rfl), (Nat.le_of_ble_eq_true rfl)⟩ G w k_a0.1 k_a0.2 rfl rfl hl.1 (Nat.le_of_ble_eq_true rfl) (dcs_get dec_X12_soonest_0 6 rfl) ⟨Nat.le_refl _, Nat.le_refl _⟩) G w (fun H locs w => ?_)
    refine lv_if_eq (tgt := 27) G.hx G.hb (dcs_get dec_X12_soonest_0 7 rfl) (by decide) (fun hc => ?_) (fun hc => ?_)
    · rw [if_pos hc] at hf
      exact B_X12_soonest_27  σ G hm  hf  w (lv_sub hl [] rfl)
    · rw [if_neg hc] at hf
      refine lv_aload_n G.hx G.hb (dcs_get dec_X12_soonest_0 8 rfl) rfl (lv_at hl 0 rfl) ?_
      refine lv_iload_n G.hx G.hb (dcs_get dec_X12_soonest_0 9 rfl) rfl (lv_at hl 1 rfl) ?_
      refine lv_iconst (v := (1 : Int32)) G.hx G.hb (dcs_get dec_X12_soonest_0 10 rfl) (by decide) ?_
      refine lv_iload_n G.hx G.hb (dcs_get dec_X12_soonest_0 11 rfl) rfl (lv_at hl 2 rfl) ?_
      refine lv_ishl G.hx G.hb (dcs_get dec_X12_soonest_0 12 rfl) ?_
      obtain ⟨v6, σ7, h5, hf⟩ := cC_some hf
      refine a_i (k_V (As := [.int l1, .int ((1 : Int32) <<< (l2 &&& 31))]) (rest := []) cls12 lb_X12_daysTo lv_X12_daysTo q_1480 (C_X12_daysTo G.2.2.1 a0 l1 ((1 : Int32) <<< (l2 &&& 31)) σ h5 ok_a0) ⟨(Nat.le_of_ble_eq_true rfl), (Nat.le_of_ble_eq_true rfl)⟩ G w k_a0.1 k_a0.2 rfl rfl hl.1 (Nat.le_of_ble_eq_true rfl) (dcs_get dec_X12_soonest_0 13 rfl) ⟨Nat.le_refl _, Nat.le_refl _⟩) G w (fun H locs w => ?_)
      refine lv_goto (tgt := 28) G.hx G.hb (dcs_get dec_X12_soonest_0 14 rfl) (by decide) ?_
      exact B_X12_soonest_28 v6 σ7 G hm  hf  w (lv_sub hl [] rfl)
end
set_option maxRecDepth 100000 in
set_option maxHeartbeats 4000000 in
theorem C_X12_soonest {l : Launch} {D : va_G} {ay : Nat → ClassId} {ad : Nat → Nat} (hi : hInj NM ad) (a0 : Nat) (l1 : Int32) (l2 : Int32) (σ : hSt) {r0 : Int32} {σ0 : hSt} (hf : F_X12_soonest a0 l1 l2 σ = some (r0, σ0)) (ok_a0 : okr kM NM 12 a0 = true) : hM l D ay kM NM ad yX12_soonest cX12_soonest 3 ((some .int)) (rmK 6 151) [.ref (ad a0), .int l1, .int l2] σ (cI D ay kM NM ad r0 σ0) := by
  refine hM_in (by decide) hi (Nat.le_of_ble_eq_true rfl) ?_
  intro p e s m below meth c G hm w ls hl
  exact B_X12_soonest_0 a0 l1 l2 σ G hm ok_a0 hf w (lv_sub hl [0, 1, 2] rfl)

/-! HillDrumsModel.all(I)I -/
def DL_X12_all_0 : List (Nat × Instr × Nat) := [(0, .aload_n 0, 1), (1, .iload_n 1, 1), (2, .invokevirtual 377, 3), (5, .ifCond .eq 24, 3), (8, .aload_n 0, 1), (9, .iload_n 1, 1), (10, .iconst 1, 1), (11, .aload_n 0, 1), (12, .getfield 49, 3), (15, .aload_n 0, 1), (16, .getfield 236, 3), (19, .iaload, 1), (20, .ishl, 1), (21, .iconst 1, 1), (22, .isub, 1), (23, .invokevirtual 417, 3), (26, .goto 4, 3), (29, .iconst (-1), 1), (30, .ireturn, 1)]
set_option maxRecDepth 100000 in
theorem dec_X12_all_0 : dcs cX12_all DL_X12_all_0 = true := by decide +kernel
theorem lb_X12_all : lkB yX12_all cX12_all 2 ((some .int)) 1 := ⟨q_1510, q_14, ⟨by decide, by decide⟩, by decide +kernel⟩
theorem lv_X12_all : lkV yX12_all := ⟨q_1508, q_1509⟩
def F_X12_all_30 (s0 : Int32) (σ : hSt) : Option (Int32 × hSt) :=
some ((s0, σ))
def F_X12_all (a0 : Nat) (l1 : Int32) (σ : hSt) : Option (Int32 × hSt) :=
(F_X12_isNews a0 l1 σ).bind fun v2 =>
if v2 = 0 then (
F_X12_all_30 (-1 : Int32) σ) else (
cR (σ.2.2 a0 24) (okr kM NM 101) fun z3 =>
cG (inb (σ.1 a0 18) (kM z3).2) <|
cC (F_X12_daysTo a0 l1 (((1 : Int32) <<< ((σ.1 z3 (σ.1 a0 18).toNatClampNeg) &&& 31)) - (1 : Int32)) σ) fun v6 σ7 =>
F_X12_all_30 v6 σ7)
section
variable {p : Program} {l : Launch} {e : Env} {s : State} {m : MethodId} {args : Array Value} {below : List Frame} {meth : Method} {c : Code} {D : va_G} {ay : Nat → ClassId} {ad : Nat → Nat}
set_option maxRecDepth 100000 in
set_option maxHeartbeats 4000000 in
theorem B_X12_all_30 {H : Heap} {locs : List Loc} {ls : Array Slot} {r0 : Int32} {σ0 : hSt} (s0 : Int32) (σ : hSt) (G : Gx p m c cX12_all 2 s args RX12 D ay NM ad (aN NM ad)) (hm : meth.sig.returnType = (some .int) ∧ meth.locks = false)  (hf : F_X12_all_30 s0 σ = some (r0, σ0))  (w : Wd D ay kM NM ad (aN NM ad) s σ H locs) (hl : lv_has ls 2 []) : W p l e (rmK 6 151) s m args below meth c H locs 0 0 (MQ below (cI D ay kM NM ad r0 σ0) args s 0 0 (aN NM ad)) (F0 m 30 ls [.int s0]) := by
  unfold F_X12_all_30 at hf
  have e9 := Option.some.inj hf
  exact r_iret G w hm (congrArg Prod.fst e9) (congrArg Prod.snd e9) (dcs_get dec_X12_all_0 18 rfl)
set_option maxRecDepth 100000 in
set_option maxHeartbeats 4000000 in
theorem B_X12_all_0 {H : Heap} {locs : List Loc} {ls : Array Slot} {r0 : Int32} {σ0 : hSt} (a0 : Nat) (l1 : Int32) (σ : hSt) (G : Gx p m c cX12_all 2 s args RX12 D ay NM ad (aN NM ad)) (hm : meth.sig.returnType = (some .int) ∧ meth.locks = false) (ok_a0 : okr kM NM 12 a0 = true) (hf : F_X12_all a0 l1 σ = some (r0, σ0))  (w : Wd D ay kM NM ad (aN NM ad) s σ H locs) (hl : lv_has ls 2 [(0, .ref (ad a0)), (1, .int l1)]) : W p l e (rmK 6 151) s m args below meth c H locs 0 0 (MQ below (cI D ay kM NM ad r0 σ0) args s 0 0 (aN NM ad)) (F0 m 0 ls []) := by
  have k_a0 := okr_in ok_a0
  unfold F_X12_all at hf
  refine lv_aload_n G.hx G.hb (dcs_get dec_X12_all_0 0 rfl) rfl (lv_at hl 0 rfl) ?_
  refine lv_iload_n G.hx G.hb (dcs_get dec_X12_all_0 1 rfl) rfl (lv_at hl 1 rfl) ?_
  obtain ⟨v2, h1, hf⟩ := cB_some hf
  refine a_i (k_V (As := [.int l1]) (rest := []) cls12 lb_X12_isNews lv_X12_isNews q_1376 (C_X12_isNews G.2.2.1 a0 l1 σ h1 ok_a0) ⟨(Nat.le_of_ble_eq_true rfl), (Nat.le_of_ble_eq_true rfl)⟩ G w k_a0.1 k_a0.2 rfl rfl hl.1 (Nat.le_of_ble_eq_true rfl) (dcs_get dec_X12_all_0 2 rfl) ⟨Nat.le_refl _, Nat.le_refl _⟩) G w (fun H locs w => ?_)
  refine lv_if_eq (tgt := 29) G.hx G.hb (dcs_get dec_X12_all_0 3 rfl) (by decide) (fun hc => ?_) (fun hc => ?_)
  · rw [if_pos hc] at hf
    refine lv_iconst (v := (-1 : Int32)) G.hx G.hb (dcs_get dec_X12_all_0 17 rfl) (by decide) ?_
    exact B_X12_all_30 (-1 : Int32) σ G hm  hf  w (lv_sub hl [] rfl)
  · rw [if_neg hc] at hf
    refine lv_aload_n G.hx G.hb (dcs_get dec_X12_all_0 4 rfl) rfl (lv_at hl 0 rfl) ?_
    refine lv_iload_n G.hx G.hb (dcs_get dec_X12_all_0 5 rfl) rfl (lv_at hl 1 rfl) ?_
    refine lv_iconst (v := (1 : Int32)) G.hx G.hb (dcs_get dec_X12_all_0 6 rfl) (by decide) ?_
    refine lv_aload_n G.hx G.hb (dcs_get dec_X12_all_0 7 rfl) rfl (lv_at hl 0 rfl) ?_
    obtain ⟨z3, e_z3, ok_z3, hf⟩ := cR_some hf
    have k_z3 := okr_in ok_z3
    refine r_getr (k := 24) cls12 fi_12_24.1 fi_12_24.2 q_1032 G w k_a0.1 k_a0.2 e_z3 (dcs_get dec_X12_all_0 8 rfl) ?_
    refine lv_aload_n G.hx G.hb (dcs_get dec_X12_all_0 9 rfl) rfl (lv_at hl 0 rfl) ?_
    refine r_geti (k := 18) cls12 fi_12_18.1 fi_12_18.2 q_1026 G w k_a0.1 k_a0.2 (dcs_get dec_X12_all_0 10 rfl) ?_
    obtain ⟨h4, hf⟩ := cG_some hf
    refine r_iald G w k_z3.1 k_z3.2 h4 (dcs_get dec_X12_all_0 11 rfl) ?_
    refine lv_ishl G.hx G.hb (dcs_get dec_X12_all_0 12 rfl) ?_
    refine lv_iconst (v := (1 : Int32)) G.hx G.hb (dcs_get dec_X12_all_0 13 rfl) (by decide) ?_
    refine lv_isub G.hx G.hb (dcs_get dec_X12_all_0 14 rfl) ?_
    obtain ⟨v6, σ7, h5, hf⟩ := cC_some hf
    refine a_i (k_V (As := [.int l1, .int (((1 : Int32) <<< ((σ.1 z3 (σ.1 a0 18).toNatClampNeg) &&& 31)) - (1 : Int32))]) (rest := []) cls12 lb_X12_daysTo lv_X12_daysTo q_1480 (C_X12_daysTo G.2.2.1 a0 l1 (((1 : Int32) <<< ((σ.1 z3 (σ.1 a0 18).toNatClampNeg) &&& 31)) - (1 : Int32)) σ h5 ok_a0) ⟨(Nat.le_of_ble_eq_true rfl), (Nat.le_of_ble_eq_true rfl)⟩ G w k_a0.1 k_a0.2 rfl rfl hl.1 (Nat.le_of_ble_eq_true rfl) (dcs_get dec_X12_all_0 15 rfl) ⟨Nat.le_refl _, Nat.le_refl _⟩) G w (fun H locs w => ?_)
    refine lv_goto (tgt := 30) G.hx G.hb (dcs_get dec_X12_all_0 16 rfl) (by decide) ?_
    exact B_X12_all_30 v6 σ7 G hm  hf  w (lv_sub hl [] rfl)
end
set_option maxRecDepth 100000 in
set_option maxHeartbeats 4000000 in
theorem C_X12_all {l : Launch} {D : va_G} {ay : Nat → ClassId} {ad : Nat → Nat} (hi : hInj NM ad) (a0 : Nat) (l1 : Int32) (σ : hSt) {r0 : Int32} {σ0 : hSt} (hf : F_X12_all a0 l1 σ = some (r0, σ0)) (ok_a0 : okr kM NM 12 a0 = true) : hM l D ay kM NM ad yX12_all cX12_all 2 ((some .int)) (rmK 6 151) [.ref (ad a0), .int l1] σ (cI D ay kM NM ad r0 σ0) := by
  refine hM_in (by decide) hi (Nat.le_of_ble_eq_true rfl) ?_
  intro p e s m below meth c G hm w ls hl
  exact B_X12_all_0 a0 l1 σ G hm ok_a0 hf w (lv_sub hl [0, 1] rfl)

/-! HillDrumsModel.drums(I)I -/
def DL_X12_drums_0 : List (Nat × Instr × Nat) := [(0, .aload_n 0, 1), (1, .iload_n 1, 1), (2, .invokevirtual 377, 3), (5, .ifCond .ne 5, 3), (8, .iconst (-1), 1), (9, .ireturn, 1), (10, .aload_n 0, 1), (11, .iload_n 1, 1), (12, .invokevirtual 408, 3), (15, .iconst 0, 1), (16, .istore_n 2, 1), (17, .iload_n 2, 1), (18, .bipush 60, 2), (20, .if_icmp .ge 24, 3), (23, .aload_n 0, 1), (24, .aload_n 0, 1), (25, .getfield 125, 3), (28, .bipush 120, 2), (30, .iaload, 1), (31, .iconst 1, 1), (32, .iadd, 1), (33, .iload_n 2, 1), (34, .iadd, 1), (35, .invokevirtual 414, 3), (38, .iinc 2 1, 3), (41, .goto (-24), 3), (44, .aload_n 0, 1), (45, .getfield 134, 3), (48, .iconst 1, 1), (49, .aload_n 0, 1), (50, .getfield 49, 3), (53, .aload_n 0, 1), (54, .getfield 236, 3), (57, .iaload, 1), (58, .ishl, 1), (59, .iconst 1, 1), (60, .isub, 1), (61, .iaload, 1), (62, .istore_n 2, 1), (63, .iload_n 2, 1)]
set_option maxRecDepth 100000 in
theorem dec_X12_drums_0 : dcs cX12_drums DL_X12_drums_0 = true := by decide +kernel
def DL_X12_drums_1 : List (Nat × Instr × Nat) := [(64, .ifCond .ge 8, 3), (67, .bipush (-2), 2), (69, .goto 4, 3), (72, .iload_n 2, 1), (73, .ireturn, 1)]
set_option maxRecDepth 100000 in
theorem dec_X12_drums_1 : dcs cX12_drums DL_X12_drums_1 = true := by decide +kernel
theorem lb_X12_drums : lkB yX12_drums cX12_drums 3 ((some .int)) 1 := ⟨q_1514, q_14, ⟨by decide, by decide⟩, by decide +kernel⟩
theorem lv_X12_drums : lkV yX12_drums := ⟨q_1512, q_1513⟩
def F_X12_drums_73 (s0 : Int32) (σ : hSt) : Option (Int32 × hSt) :=
some ((s0, σ))
def F_X12_drums_17b (a0 : Nat) (l2 : Int32) (σ : hSt) : Option ((Int32 × hSt) ⊕ (Int32 × hSt)) :=
if (60 : Int32) ≤ l2 then (
cR (σ.2.2 a0 59) (okr kM NM 101) fun z1 =>
cR (σ.2.2 a0 24) (okr kM NM 101) fun z2 =>
cG (inb (σ.1 a0 18) (kM z2).2) <|
cG (inb (((1 : Int32) <<< ((σ.1 z2 (σ.1 a0 18).toNatClampNeg) &&& 31)) - (1 : Int32)) (kM z1).2) <|
cL (σ.1 z1 (((1 : Int32) <<< ((σ.1 z2 (σ.1 a0 18).toNatClampNeg) &&& 31)) - (1 : Int32)).toNatClampNeg) fun v5 =>
if 0 ≤ v5 then (
(F_X12_drums_73 v5 σ).map (fun x => .inr (x))) else (
(F_X12_drums_73 (-2 : Int32) σ).map (fun x => .inr (x)))) else (
cR (σ.2.2 a0 53) (okr kM NM 101) fun z6 =>
cG (inb (120 : Int32) (kM z6).2) <|
(F_X12_planDay a0 (((σ.1 z6 (120 : Int32).toNatClampNeg) + (1 : Int32)) + l2) σ).bind fun σ9 =>
cL (l2 + (1 : Int32)) fun v10 =>
some (.inl (v10, σ9)))
def S_X12_drums_17 (a0 : Nat) (v : Int32 × hSt) : Option ((Int32 × hSt) ⊕ (Int32 × hSt)) := F_X12_drums_17b a0 v.1 v.2
def F_X12_drums_17 (a0 : Nat) (l2 : Int32) (σ : hSt) : Option (Int32 × hSt) := lp (S_X12_drums_17 a0) fuel (l2, σ)
def F_X12_drums (a0 : Nat) (l1 : Int32) (σ : hSt) : Option (Int32 × hSt) :=
(F_X12_isNews a0 l1 σ).bind fun v12 =>
if v12 = 0 then (
some (((-1 : Int32), σ))) else (
(F_X12_startsPlan a0 l1 σ).bind fun σ14 =>
F_X12_drums_17 a0 (0 : Int32) σ14)
section
variable {p : Program} {l : Launch} {e : Env} {s : State} {m : MethodId} {args : Array Value} {below : List Frame} {meth : Method} {c : Code} {D : va_G} {ay : Nat → ClassId} {ad : Nat → Nat}
set_option maxRecDepth 100000 in
set_option maxHeartbeats 4000000 in
theorem B_X12_drums_73 {H : Heap} {locs : List Loc} {ls : Array Slot} {r0 : Int32} {σ0 : hSt} (s0 : Int32) (σ : hSt) (G : Gx p m c cX12_drums 3 s args RX12 D ay NM ad (aN NM ad)) (hm : meth.sig.returnType = (some .int) ∧ meth.locks = false)  (hf : F_X12_drums_73 s0 σ = some (r0, σ0))  (w : Wd D ay kM NM ad (aN NM ad) s σ H locs) (hl : lv_has ls 3 []) : W p l e (rmK 5 128) s m args below meth c H locs 0 0 (MQ below (cI D ay kM NM ad r0 σ0) args s 0 0 (aN NM ad)) (F0 m 73 ls [.int s0]) := by
  unfold F_X12_drums_73 at hf
  have e9 := Option.some.inj hf
  exact r_iret G w hm (congrArg Prod.fst e9) (congrArg Prod.snd e9) (dcs_get dec_X12_drums_1 4 rfl)
set_option maxRecDepth 100000 in
set_option maxHeartbeats 4000000 in
theorem B_X12_drums_17b {H : Heap} {locs : List Loc} {ls : Array Slot} {r0 : Int32} {σ0 : hSt} {o : (Int32 × hSt) ⊕ (Int32 × hSt)} (a0 : Nat) (l2 : Int32) (σ : hSt) (G : Gx p m c cX12_drums 3 s args RX12 D ay NM ad (aN NM ad)) (hm : meth.sig.returnType = (some .int) ∧ meth.locks = false) (ok_a0 : okr kM NM 12 a0 = true) (hf : F_X12_drums_17b a0 l2 σ = some o) (hb0 : ∀ (v : Int32 × hSt), o = .inl v → ∀ (H : Heap) (locs : List Loc) (ls : Array Slot), Wd D ay kM NM ad (aN NM ad) s v.2 H locs → lv_has ls 3 [(0, .ref (ad a0)), (2, .int v.1)] → W p l e (rmK 5 128) s m args below meth c H locs 0 0 (MQ below (cI D ay kM NM ad r0 σ0) args s 0 0 (aN NM ad)) (F0 m 17 ls [])) (hr : ∀ x, o = .inr (x) → x = (r0, σ0)) (w : Wd D ay kM NM ad (aN NM ad) s σ H locs) (hl : lv_has ls 3 [(0, .ref (ad a0)), (2, .int l2)]) : W p l e (rmK 5 128) s m args below meth c H locs 0 0 (MQ below (cI D ay kM NM ad r0 σ0) args s 0 0 (aN NM ad)) (F0 m 17 ls []) := by
  have k_a0 := okr_in ok_a0
  unfold F_X12_drums_17b at hf
  refine lv_iload_n G.hx G.hb (dcs_get dec_X12_drums_0 11 rfl) rfl (lv_at hl 1 rfl) ?_
  refine lv_bipush (v := (60 : Int32)) G.hx G.hb (dcs_get dec_X12_drums_0 12 rfl) (by decide) ?_
  refine lv_icmp_ge (tgt := 44) G.hx G.hb (dcs_get dec_X12_drums_0 13 rfl) (by decide) (fun hc => ?_) (fun hc => ?_)
  · rw [if_pos hc] at hf
    refine lv_aload_n G.hx G.hb (dcs_get dec_X12_drums_0 26 rfl) rfl (lv_at hl 0 rfl) ?_
    obtain ⟨z1, e_z1, ok_z1, hf⟩ := cR_some hf
    have k_z1 := okr_in ok_z1
    refine r_getr (k := 59) cls12 fi_12_59.1 fi_12_59.2 q_1067 G w k_a0.1 k_a0.2 e_z1 (dcs_get dec_X12_drums_0 27 rfl) ?_
    refine lv_iconst (v := (1 : Int32)) G.hx G.hb (dcs_get dec_X12_drums_0 28 rfl) (by decide) ?_
    refine lv_aload_n G.hx G.hb (dcs_get dec_X12_drums_0 29 rfl) rfl (lv_at hl 0 rfl) ?_
    obtain ⟨z2, e_z2, ok_z2, hf⟩ := cR_some hf
    have k_z2 := okr_in ok_z2
    refine r_getr (k := 24) cls12 fi_12_24.1 fi_12_24.2 q_1032 G w k_a0.1 k_a0.2 e_z2 (dcs_get dec_X12_drums_0 30 rfl) ?_
    refine lv_aload_n G.hx G.hb (dcs_get dec_X12_drums_0 31 rfl) rfl (lv_at hl 0 rfl) ?_
    refine r_geti (k := 18) cls12 fi_12_18.1 fi_12_18.2 q_1026 G w k_a0.1 k_a0.2 (dcs_get dec_X12_drums_0 32 rfl) ?_
    obtain ⟨h3, hf⟩ := cG_some hf
    refine r_iald G w k_z2.1 k_z2.2 h3 (dcs_get dec_X12_drums_0 33 rfl) ?_
    refine lv_ishl G.hx G.hb (dcs_get dec_X12_drums_0 34 rfl) ?_
    refine lv_iconst (v := (1 : Int32)) G.hx G.hb (dcs_get dec_X12_drums_0 35 rfl) (by decide) ?_
    refine lv_isub G.hx G.hb (dcs_get dec_X12_drums_0 36 rfl) ?_
    obtain ⟨h4, hf⟩ := cG_some hf
    refine r_iald G w k_z1.1 k_z1.2 h4 (dcs_get dec_X12_drums_0 37 rfl) ?_
    obtain ⟨v5, e_v5, hf⟩ := cL_some hf
    refine r_topi e_v5 ?_
    refine lv_istore_n (lv' := [(2, .int v5), (0, .ref (ad a0))]) G.hx G.hb (dcs_get dec_X12_drums_0 38 rfl) rfl hl (by decide) rfl (fun ls hl => ?_)
    refine lv_iload_n G.hx G.hb (dcs_get dec_X12_drums_0 39 rfl) rfl (lv_at hl 0 rfl) ?_
    refine lv_if_ge (tgt := 72) G.hx G.hb (dcs_get dec_X12_drums_1 0 rfl) (by decide) (fun hc => ?_) (fun hc => ?_)
    · rw [if_pos hc] at hf
      refine lv_iload_n G.hx G.hb (dcs_get dec_X12_drums_1 3 rfl) rfl (lv_at hl 0 rfl) ?_
      obtain ⟨x9, h9, e9⟩ := map_some_inv hf
      subst e9
      have e8 := hr _ rfl
      rw [e8] at h9
      exact B_X12_drums_73 v5 σ G hm  h9 w (lv_sub hl [] rfl)
    · rw [if_neg hc] at hf
      refine lv_bipush (v := (-2 : Int32)) G.hx G.hb (dcs_get dec_X12_drums_1 1 rfl) (by decide) ?_
      refine lv_goto (tgt := 73) G.hx G.hb (dcs_get dec_X12_drums_1 2 rfl) (by decide) ?_
      obtain ⟨x9, h9, e9⟩ := map_some_inv hf
      subst e9
      have e8 := hr _ rfl
      rw [e8] at h9
      exact B_X12_drums_73 (-2 : Int32) σ G hm  h9 w (lv_sub hl [] rfl)
  · rw [if_neg hc] at hf
    refine lv_aload_n G.hx G.hb (dcs_get dec_X12_drums_0 14 rfl) rfl (lv_at hl 0 rfl) ?_
    refine lv_aload_n G.hx G.hb (dcs_get dec_X12_drums_0 15 rfl) rfl (lv_at hl 0 rfl) ?_
    obtain ⟨z6, e_z6, ok_z6, hf⟩ := cR_some hf
    have k_z6 := okr_in ok_z6
    refine r_getr (k := 53) cls12 fi_12_53.1 fi_12_53.2 q_1061 G w k_a0.1 k_a0.2 e_z6 (dcs_get dec_X12_drums_0 16 rfl) ?_
    refine lv_bipush (v := (120 : Int32)) G.hx G.hb (dcs_get dec_X12_drums_0 17 rfl) (by decide) ?_
    obtain ⟨h7, hf⟩ := cG_some hf
    refine r_iald G w k_z6.1 k_z6.2 h7 (dcs_get dec_X12_drums_0 18 rfl) ?_
    refine lv_iconst (v := (1 : Int32)) G.hx G.hb (dcs_get dec_X12_drums_0 19 rfl) (by decide) ?_
    refine lv_iadd G.hx G.hb (dcs_get dec_X12_drums_0 20 rfl) ?_
    refine lv_iload_n G.hx G.hb (dcs_get dec_X12_drums_0 21 rfl) rfl (lv_at hl 1 rfl) ?_
    refine lv_iadd G.hx G.hb (dcs_get dec_X12_drums_0 22 rfl) ?_
    obtain ⟨σ9, h8, hf⟩ := cB_some hf
    refine a_v (k_V (As := [.int (((σ.1 z6 (120 : Int32).toNatClampNeg) + (1 : Int32)) + l2)]) (rest := []) cls12 lb_X12_planDay lv_X12_planDay q_1492 (C_X12_planDay G.2.2.1 a0 (((σ.1 z6 (120 : Int32).toNatClampNeg) + (1 : Int32)) + l2) σ h8 ok_a0) ⟨(Nat.le_of_ble_eq_true rfl), (Nat.le_of_ble_eq_true rfl)⟩ G w k_a0.1 k_a0.2 rfl rfl hl.1 (Nat.le_of_ble_eq_true rfl) (dcs_get dec_X12_drums_0 23 rfl) ⟨Nat.le_refl _, Nat.le_refl _⟩) G w (fun H locs w => ?_)
    obtain ⟨v10, e_v10, hf⟩ := cL_some hf
    refine lv_iinc (v := v10) (lv' := [(2, .int v10), (0, .ref (ad a0))]) G.hx G.hb (dcs_get dec_X12_drums_0 24 rfl) hl (k := 1) rfl (by rw [e_v10]; rfl) (by decide) rfl (fun ls hl => ?_)
    refine lv_goto (tgt := 17) G.hx G.hb (dcs_get dec_X12_drums_0 25 rfl) (by decide) ?_
    exact hb0 _ (Option.some.inj hf).symm _ _ _ w (lv_sub hl [1, 0] rfl)
set_option maxRecDepth 100000 in
set_option maxHeartbeats 4000000 in
theorem H_X12_drums_17 {r0 : Int32} {σ0 : hSt} (a0 : Nat) (G : Gx p m c cX12_drums 3 s args RX12 D ay NM ad (aN NM ad)) (hm : meth.sig.returnType = (some .int) ∧ meth.locks = false) (ok_a0 : okr kM NM 12 a0 = true)  : ∀ (k : Nat) (v : Int32 × hSt), lp (S_X12_drums_17 a0) k v = some (r0, σ0) → ∀ (H : Heap) (locs : List Loc) (ls : Array Slot), Wd D ay kM NM ad (aN NM ad) s v.2 H locs → lv_has ls 3 [(0, .ref (ad a0)), (2, .int v.1)] → W p l e (rmK 5 128) s m args below meth c H locs 0 0 (MQ below (cI D ay kM NM ad r0 σ0) args s 0 0 (aN NM ad)) (F0 m 17 ls []) := by
  intro k
  induction k with
  | zero => intro v hf; cases hf
  | succ k ih =>
    intro v hf H locs ls w hl
    obtain ⟨o1, h1, h2, h3⟩ := lp_some hf
    exact B_X12_drums_17b a0 v.1 v.2 G hm ok_a0 h1  (fun v' e => ih v' (h2 v' e)) (fun x e => h3 x e) w hl
set_option maxRecDepth 100000 in
set_option maxHeartbeats 4000000 in
theorem B_X12_drums_17 {H : Heap} {locs : List Loc} {ls : Array Slot} {r0 : Int32} {σ0 : hSt} (a0 : Nat) (l2 : Int32) (σ : hSt) (G : Gx p m c cX12_drums 3 s args RX12 D ay NM ad (aN NM ad)) (hm : meth.sig.returnType = (some .int) ∧ meth.locks = false) (ok_a0 : okr kM NM 12 a0 = true) (hf : F_X12_drums_17 a0 l2 σ = some (r0, σ0))  (w : Wd D ay kM NM ad (aN NM ad) s σ H locs) (hl : lv_has ls 3 [(0, .ref (ad a0)), (2, .int l2)]) : W p l e (rmK 5 128) s m args below meth c H locs 0 0 (MQ below (cI D ay kM NM ad r0 σ0) args s 0 0 (aN NM ad)) (F0 m 17 ls []) := by
  unfold F_X12_drums_17 at hf
  exact H_X12_drums_17 a0  G hm ok_a0  fuel (l2, σ) hf _ _ _ w hl
set_option maxRecDepth 100000 in
set_option maxHeartbeats 4000000 in
theorem B_X12_drums_0 {H : Heap} {locs : List Loc} {ls : Array Slot} {r0 : Int32} {σ0 : hSt} (a0 : Nat) (l1 : Int32) (σ : hSt) (G : Gx p m c cX12_drums 3 s args RX12 D ay NM ad (aN NM ad)) (hm : meth.sig.returnType = (some .int) ∧ meth.locks = false) (ok_a0 : okr kM NM 12 a0 = true) (hf : F_X12_drums a0 l1 σ = some (r0, σ0))  (w : Wd D ay kM NM ad (aN NM ad) s σ H locs) (hl : lv_has ls 3 [(0, .ref (ad a0)), (1, .int l1)]) : W p l e (rmK 5 128) s m args below meth c H locs 0 0 (MQ below (cI D ay kM NM ad r0 σ0) args s 0 0 (aN NM ad)) (F0 m 0 ls []) := by
  have k_a0 := okr_in ok_a0
  unfold F_X12_drums at hf
  refine lv_aload_n G.hx G.hb (dcs_get dec_X12_drums_0 0 rfl) rfl (lv_at hl 0 rfl) ?_
  refine lv_iload_n G.hx G.hb (dcs_get dec_X12_drums_0 1 rfl) rfl (lv_at hl 1 rfl) ?_
  obtain ⟨v12, h11, hf⟩ := cB_some hf
  refine a_i (k_V (As := [.int l1]) (rest := []) cls12 lb_X12_isNews lv_X12_isNews q_1376 (C_X12_isNews G.2.2.1 a0 l1 σ h11 ok_a0) ⟨(Nat.le_of_ble_eq_true rfl), (Nat.le_of_ble_eq_true rfl)⟩ G w k_a0.1 k_a0.2 rfl rfl hl.1 (Nat.le_of_ble_eq_true rfl) (dcs_get dec_X12_drums_0 2 rfl) ⟨Nat.le_refl _, Nat.le_refl _⟩) G w (fun H locs w => ?_)
  refine lv_if_ne (tgt := 10) G.hx G.hb (dcs_get dec_X12_drums_0 3 rfl) (by decide) (fun hc => ?_) (fun hc => ?_)
  · rw [if_neg hc] at hf
    refine lv_aload_n G.hx G.hb (dcs_get dec_X12_drums_0 6 rfl) rfl (lv_at hl 0 rfl) ?_
    refine lv_iload_n G.hx G.hb (dcs_get dec_X12_drums_0 7 rfl) rfl (lv_at hl 1 rfl) ?_
    obtain ⟨σ14, h13, hf⟩ := cB_some hf
    refine a_v (k_V (As := [.int l1]) (rest := []) cls12 lb_X12_startsPlan lv_X12_startsPlan q_1484 (C_X12_startsPlan G.2.2.1 a0 l1 σ h13 ok_a0) ⟨(Nat.le_of_ble_eq_true rfl), (Nat.le_of_ble_eq_true rfl)⟩ G w k_a0.1 k_a0.2 rfl rfl hl.1 (Nat.le_of_ble_eq_true rfl) (dcs_get dec_X12_drums_0 8 rfl) ⟨Nat.le_refl _, Nat.le_refl _⟩) G w (fun H locs w => ?_)
    refine lv_iconst (v := (0 : Int32)) G.hx G.hb (dcs_get dec_X12_drums_0 9 rfl) (by decide) ?_
    refine lv_istore_n (lv' := [(2, .int (0 : Int32)), (0, .ref (ad a0)), (1, .int l1)]) G.hx G.hb (dcs_get dec_X12_drums_0 10 rfl) rfl hl (by decide) rfl (fun ls hl => ?_)
    exact B_X12_drums_17 a0 (0 : Int32) σ14 G hm ok_a0 hf  w (lv_sub hl [1, 0] rfl)
  · rw [if_pos hc] at hf
    refine lv_iconst (v := (-1 : Int32)) G.hx G.hb (dcs_get dec_X12_drums_0 4 rfl) (by decide) ?_
    have e9 := Option.some.inj hf
    exact r_iret G w hm (congrArg Prod.fst e9) (congrArg Prod.snd e9) (dcs_get dec_X12_drums_0 5 rfl)
end
set_option maxRecDepth 100000 in
set_option maxHeartbeats 4000000 in
theorem C_X12_drums {l : Launch} {D : va_G} {ay : Nat → ClassId} {ad : Nat → Nat} (hi : hInj NM ad) (a0 : Nat) (l1 : Int32) (σ : hSt) {r0 : Int32} {σ0 : hSt} (hf : F_X12_drums a0 l1 σ = some (r0, σ0)) (ok_a0 : okr kM NM 12 a0 = true) : hM l D ay kM NM ad yX12_drums cX12_drums 3 ((some .int)) (rmK 5 128) [.ref (ad a0), .int l1] σ (cI D ay kM NM ad r0 σ0) := by
  refine hM_in (by decide) hi (Nat.le_of_ble_eq_true rfl) ?_
  intro p e s m below meth c G hm w ls hl
  exact B_X12_drums_0 a0 l1 σ G hm ok_a0 hf w (lv_sub hl [0, 1] rfl)

/-! HillDrumsModel.endsBy(IIII)Z -/
def DL_X12_endsBy_0 : List (Nat × Instr × Nat) := [(0, .aload_n 0, 1), (1, .getfield 122, 3), (4, .iload_n 2, 1), (5, .iaload, 1), (6, .iload_n 1, 1), (7, .ishr, 1), (8, .iconst 1, 1), (9, .iand, 1), (10, .ifCond .ne 5, 3), (13, .iconst 0, 1), (14, .ireturn, 1), (15, .iconst 0, 1), (16, .istore 5, 2), (18, .iload 5, 2), (20, .iconst 2, 1), (21, .if_icmp .ge 52, 3), (24, .aload_n 0, 1), (25, .iload_n 2, 1), (26, .iload_n 3, 1), (27, .iload 5, 2), (29, .invokevirtual 368, 3), (32, .ifCond .ne 6, 3), (35, .goto 32, 3), (38, .aload_n 0, 1), (39, .getfield 140, 3), (42, .iload 4, 2), (44, .iconst 1, 1), (45, .isub, 1), (46, .bipush 100, 2), (48, .iload_n 2, 1), (49, .imul, 1), (50, .bipush 10, 2), (52, .iload_n 3, 1), (53, .imul, 1), (54, .iadd, 1), (55, .iload 5, 2), (57, .iadd, 1), (58, .iastore, 1), (59, .aload_n 0, 1), (60, .iload 4, 2)]
set_option maxRecDepth 100000 in
theorem dec_X12_endsBy_0 : dcs cX12_endsBy DL_X12_endsBy_0 = true := by decide +kernel
def DL_X12_endsBy_1 : List (Nat × Instr × Nat) := [(62, .putfield 420, 3), (65, .iconst 1, 1), (66, .ireturn, 1), (67, .iinc 5 1, 3), (70, .goto (-52), 3), (73, .iconst 0, 1), (74, .ireturn, 1)]
set_option maxRecDepth 100000 in
theorem dec_X12_endsBy_1 : dcs cX12_endsBy DL_X12_endsBy_1 = true := by decide +kernel
theorem lb_X12_endsBy : lkB yX12_endsBy cX12_endsBy 6 ((some .boolean)) 4 := ⟨q_1534, q_14, ⟨by decide, by decide⟩, by decide +kernel⟩
theorem lv_X12_endsBy : lkV yX12_endsBy := ⟨q_1533, qs_121⟩
def F_X12_endsBy_18b (a0 : Nat) (l2 : Int32) (l3 : Int32) (l4 : Int32) (l5 : Int32) (σ : hSt) : Option ((Int32) ⊕ (Int32 × hSt)) :=
if (2 : Int32) ≤ l5 then (
some (.inr (((0 : Int32), σ)))) else (
(F_X12_isLawful a0 l2 l3 l5 σ).bind fun v2 =>
if v2 = 0 then (
cL (l5 + (1 : Int32)) fun v7 =>
some (.inl (v7))) else (
cR (σ.2.2 a0 61) (okr kM NM 101) fun z3 =>
cG (inb (l4 - (1 : Int32)) (kM z3).2) <|
cL (uI σ z3 (l4 - (1 : Int32)).toNatClampNeg ((((100 : Int32) * l2) + ((10 : Int32) * l3)) + l5)) fun σ5 =>
cL (uI σ5 a0 62 l4) fun σ6 =>
some (.inr (((1 : Int32), σ6)))))
def S_X12_endsBy_18 (a0 : Nat) (l2 : Int32) (l3 : Int32) (l4 : Int32) (σ : hSt) (v : Int32) : Option ((Int32) ⊕ (Int32 × hSt)) := F_X12_endsBy_18b a0 l2 l3 l4 v σ
def F_X12_endsBy_18 (a0 : Nat) (l2 : Int32) (l3 : Int32) (l4 : Int32) (l5 : Int32) (σ : hSt) : Option (Int32 × hSt) := lp (S_X12_endsBy_18 a0 l2 l3 l4 σ) fuel (l5)
def F_X12_endsBy (a0 : Nat) (l1 : Int32) (l2 : Int32) (l3 : Int32) (l4 : Int32) (σ : hSt) : Option (Int32 × hSt) :=
cR (σ.2.2 a0 52) (okr kM NM 101) fun z8 =>
cG (inb l2 (kM z8).2) <|
if (((σ.1 z8 l2.toNatClampNeg) >>> (l1 &&& 31)) &&& (1 : Int32)) = 0 then (
some (((0 : Int32), σ))) else (
F_X12_endsBy_18 a0 l2 l3 l4 (0 : Int32) σ)
section
variable {p : Program} {l : Launch} {e : Env} {s : State} {m : MethodId} {args : Array Value} {below : List Frame} {meth : Method} {c : Code} {D : va_G} {ay : Nat → ClassId} {ad : Nat → Nat}
set_option maxRecDepth 100000 in
set_option maxHeartbeats 4000000 in
theorem B_X12_endsBy_18b {H : Heap} {locs : List Loc} {ls : Array Slot} {r0 : Int32} {σ0 : hSt} {o : (Int32) ⊕ (Int32 × hSt)} (a0 : Nat) (l2 : Int32) (l3 : Int32) (l4 : Int32) (l5 : Int32) (σ : hSt) (G : Gx p m c cX12_endsBy 6 s args RX12 D ay NM ad (aN NM ad)) (hm : meth.sig.returnType = (some .boolean) ∧ meth.locks = false) (ok_a0 : okr kM NM 12 a0 = true) (hf : F_X12_endsBy_18b a0 l2 l3 l4 l5 σ = some o) (hb0 : ∀ (v : Int32), o = .inl v → ∀ (H : Heap) (locs : List Loc) (ls : Array Slot), Wd D ay kM NM ad (aN NM ad) s σ H locs → lv_has ls 6 [(0, .ref (ad a0)), (2, .int l2), (3, .int l3), (4, .int l4), (5, .int v)] → W p l e (rmK 2 49) s m args below meth c H locs 0 0 (MQ below (cI D ay kM NM ad r0 σ0) args s 0 0 (aN NM ad)) (F0 m 18 ls [])) (hr : ∀ x, o = .inr (x) → x = (r0, σ0)) (w : Wd D ay kM NM ad (aN NM ad) s σ H locs) (hl : lv_has ls 6 [(0, .ref (ad a0)), (2, .int l2), (3, .int l3), (4, .int l4), (5, .int l5)]) : W p l e (rmK 2 49) s m args below meth c H locs 0 0 (MQ below (cI D ay kM NM ad r0 σ0) args s 0 0 (aN NM ad)) (F0 m 18 ls []) := by
  have k_a0 := okr_in ok_a0
  unfold F_X12_endsBy_18b at hf
  refine lv_iload G.hx G.hb (dcs_get dec_X12_endsBy_0 13 rfl) (lv_at hl 4 rfl) ?_
  refine lv_iconst (v := (2 : Int32)) G.hx G.hb (dcs_get dec_X12_endsBy_0 14 rfl) (by decide) ?_
  refine lv_icmp_ge (tgt := 73) G.hx G.hb (dcs_get dec_X12_endsBy_0 15 rfl) (by decide) (fun hc => ?_) (fun hc => ?_)
  · rw [if_pos hc] at hf
    refine lv_iconst (v := (0 : Int32)) G.hx G.hb (dcs_get dec_X12_endsBy_1 5 rfl) (by decide) ?_
    have e9 := hr _ (Option.some.inj hf).symm
    exact r_zret rfl G w hm (congrArg Prod.fst e9) (congrArg Prod.snd e9) (dcs_get dec_X12_endsBy_1 6 rfl)
  · rw [if_neg hc] at hf
    refine lv_aload_n G.hx G.hb (dcs_get dec_X12_endsBy_0 16 rfl) rfl (lv_at hl 0 rfl) ?_
    refine lv_iload_n G.hx G.hb (dcs_get dec_X12_endsBy_0 17 rfl) rfl (lv_at hl 1 rfl) ?_
    refine lv_iload_n G.hx G.hb (dcs_get dec_X12_endsBy_0 18 rfl) rfl (lv_at hl 2 rfl) ?_
    refine lv_iload G.hx G.hb (dcs_get dec_X12_endsBy_0 19 rfl) (lv_at hl 4 rfl) ?_
    obtain ⟨v2, h1, hf⟩ := cB_some hf
    refine a_i (k_V (As := [.int l2, .int l3, .int l5]) (rest := []) cls12 lb_X12_isLawful lv_X12_isLawful q_1440 (C_X12_isLawful G.2.2.1 a0 l2 l3 l5 σ h1 ok_a0) ⟨(Nat.le_of_ble_eq_true rfl), (Nat.le_of_ble_eq_true rfl)⟩ G w k_a0.1 k_a0.2 rfl rfl hl.1 (Nat.le_of_ble_eq_true rfl) (dcs_get dec_X12_endsBy_0 20 rfl) ⟨Nat.le_refl _, Nat.le_refl _⟩) G w (fun H locs w => ?_)
    refine lv_if_ne (tgt := 38) G.hx G.hb (dcs_get dec_X12_endsBy_0 21 rfl) (by decide) (fun hc => ?_) (fun hc => ?_)
    · rw [if_neg hc] at hf
      refine lv_aload_n G.hx G.hb (dcs_get dec_X12_endsBy_0 23 rfl) rfl (lv_at hl 0 rfl) ?_
      obtain ⟨z3, e_z3, ok_z3, hf⟩ := cR_some hf
      have k_z3 := okr_in ok_z3
      refine r_getr (k := 61) cls12 fi_12_61.1 fi_12_61.2 q_1069 G w k_a0.1 k_a0.2 e_z3 (dcs_get dec_X12_endsBy_0 24 rfl) ?_
      refine lv_iload G.hx G.hb (dcs_get dec_X12_endsBy_0 25 rfl) (lv_at hl 3 rfl) ?_
      refine lv_iconst (v := (1 : Int32)) G.hx G.hb (dcs_get dec_X12_endsBy_0 26 rfl) (by decide) ?_
      refine lv_isub G.hx G.hb (dcs_get dec_X12_endsBy_0 27 rfl) ?_
      refine lv_bipush (v := (100 : Int32)) G.hx G.hb (dcs_get dec_X12_endsBy_0 28 rfl) (by decide) ?_
      refine lv_iload_n G.hx G.hb (dcs_get dec_X12_endsBy_0 29 rfl) rfl (lv_at hl 1 rfl) ?_
      refine lv_imul G.hx G.hb (dcs_get dec_X12_endsBy_0 30 rfl) ?_
      refine lv_bipush (v := (10 : Int32)) G.hx G.hb (dcs_get dec_X12_endsBy_0 31 rfl) (by decide) ?_
      refine lv_iload_n G.hx G.hb (dcs_get dec_X12_endsBy_0 32 rfl) rfl (lv_at hl 2 rfl) ?_
      refine lv_imul G.hx G.hb (dcs_get dec_X12_endsBy_0 33 rfl) ?_
      refine lv_iadd G.hx G.hb (dcs_get dec_X12_endsBy_0 34 rfl) ?_
      refine lv_iload G.hx G.hb (dcs_get dec_X12_endsBy_0 35 rfl) (lv_at hl 4 rfl) ?_
      refine lv_iadd G.hx G.hb (dcs_get dec_X12_endsBy_0 36 rfl) ?_
      obtain ⟨h4, hf⟩ := cG_some hf
      obtain ⟨σ5, e_σ5, hf⟩ := cL_some hf
      refine r_iast G w k_z3.1 k_z3.2 h4 (dcs_get dec_X12_endsBy_0 37 rfl) (fun H locs w => ?_)
      have w := Wd.nm e_σ5 w
      refine lv_aload_n G.hx G.hb (dcs_get dec_X12_endsBy_0 38 rfl) rfl (lv_at hl 0 rfl) ?_
      refine lv_iload G.hx G.hb (dcs_get dec_X12_endsBy_0 39 rfl) (lv_at hl 3 rfl) ?_
      obtain ⟨σ6, e_σ6, hf⟩ := cL_some hf
      refine r_puti (k := 62) cls12 ct12 fi_12_62.1 fi_12_62.2 fp_12_62.1 fp_12_62.2 q_1070 rfl rfl G w k_a0.1 k_a0.2 (dcs_get dec_X12_endsBy_1 0 rfl) (fun H locs w => ?_)
      have w := Wd.nm e_σ6 w
      refine lv_iconst (v := (1 : Int32)) G.hx G.hb (dcs_get dec_X12_endsBy_1 1 rfl) (by decide) ?_
      have e9 := hr _ (Option.some.inj hf).symm
      exact r_zret rfl G w hm (congrArg Prod.fst e9) (congrArg Prod.snd e9) (dcs_get dec_X12_endsBy_1 2 rfl)
    · rw [if_pos hc] at hf
      refine lv_goto (tgt := 67) G.hx G.hb (dcs_get dec_X12_endsBy_0 22 rfl) (by decide) ?_
      obtain ⟨v7, e_v7, hf⟩ := cL_some hf
      refine lv_iinc (v := v7) (lv' := [(5, .int v7), (0, .ref (ad a0)), (2, .int l2), (3, .int l3), (4, .int l4)]) G.hx G.hb (dcs_get dec_X12_endsBy_1 3 rfl) hl (k := 4) rfl (by rw [e_v7]; rfl) (by decide) rfl (fun ls hl => ?_)
      refine lv_goto (tgt := 18) G.hx G.hb (dcs_get dec_X12_endsBy_1 4 rfl) (by decide) ?_
      exact hb0 _ (Option.some.inj hf).symm _ _ _ w (lv_sub hl [1, 2, 3, 4, 0] rfl)
set_option maxRecDepth 100000 in
set_option maxHeartbeats 4000000 in
theorem H_X12_endsBy_18 {r0 : Int32} {σ0 : hSt} (a0 : Nat) (l2 : Int32) (l3 : Int32) (l4 : Int32) (σ : hSt) (G : Gx p m c cX12_endsBy 6 s args RX12 D ay NM ad (aN NM ad)) (hm : meth.sig.returnType = (some .boolean) ∧ meth.locks = false) (ok_a0 : okr kM NM 12 a0 = true)  : ∀ (k : Nat) (v : Int32), lp (S_X12_endsBy_18 a0 l2 l3 l4 σ) k v = some (r0, σ0) → ∀ (H : Heap) (locs : List Loc) (ls : Array Slot), Wd D ay kM NM ad (aN NM ad) s σ H locs → lv_has ls 6 [(0, .ref (ad a0)), (2, .int l2), (3, .int l3), (4, .int l4), (5, .int v)] → W p l e (rmK 2 49) s m args below meth c H locs 0 0 (MQ below (cI D ay kM NM ad r0 σ0) args s 0 0 (aN NM ad)) (F0 m 18 ls []) := by
  intro k
  induction k with
  | zero => intro v hf; cases hf
  | succ k ih =>
    intro v hf H locs ls w hl
    obtain ⟨o1, h1, h2, h3⟩ := lp_some hf
    exact B_X12_endsBy_18b a0 l2 l3 l4 v σ G hm ok_a0 h1  (fun v' e => ih v' (h2 v' e)) (fun x e => h3 x e) w hl
set_option maxRecDepth 100000 in
set_option maxHeartbeats 4000000 in
theorem B_X12_endsBy_18 {H : Heap} {locs : List Loc} {ls : Array Slot} {r0 : Int32} {σ0 : hSt} (a0 : Nat) (l2 : Int32) (l3 : Int32) (l4 : Int32) (l5 : Int32) (σ : hSt) (G : Gx p m c cX12_endsBy 6 s args RX12 D ay NM ad (aN NM ad)) (hm : meth.sig.returnType = (some .boolean) ∧ meth.locks = false) (ok_a0 : okr kM NM 12 a0 = true) (hf : F_X12_endsBy_18 a0 l2 l3 l4 l5 σ = some (r0, σ0))  (w : Wd D ay kM NM ad (aN NM ad) s σ H locs) (hl : lv_has ls 6 [(0, .ref (ad a0)), (2, .int l2), (3, .int l3), (4, .int l4), (5, .int l5)]) : W p l e (rmK 2 49) s m args below meth c H locs 0 0 (MQ below (cI D ay kM NM ad r0 σ0) args s 0 0 (aN NM ad)) (F0 m 18 ls []) := by
  unfold F_X12_endsBy_18 at hf
  exact H_X12_endsBy_18 a0 l2 l3 l4 σ G hm ok_a0  fuel (l5) hf _ _ _ w hl
set_option maxRecDepth 100000 in
set_option maxHeartbeats 4000000 in
theorem B_X12_endsBy_0 {H : Heap} {locs : List Loc} {ls : Array Slot} {r0 : Int32} {σ0 : hSt} (a0 : Nat) (l1 : Int32) (l2 : Int32) (l3 : Int32) (l4 : Int32) (σ : hSt) (G : Gx p m c cX12_endsBy 6 s args RX12 D ay NM ad (aN NM ad)) (hm : meth.sig.returnType = (some .boolean) ∧ meth.locks = false) (ok_a0 : okr kM NM 12 a0 = true) (hf : F_X12_endsBy a0 l1 l2 l3 l4 σ = some (r0, σ0))  (w : Wd D ay kM NM ad (aN NM ad) s σ H locs) (hl : lv_has ls 6 [(0, .ref (ad a0)), (1, .int l1), (2, .int l2), (3, .int l3), (4, .int l4)]) : W p l e (rmK 2 49) s m args below meth c H locs 0 0 (MQ below (cI D ay kM NM ad r0 σ0) args s 0 0 (aN NM ad)) (F0 m 0 ls []) := by
  have k_a0 := okr_in ok_a0
  unfold F_X12_endsBy at hf
  refine lv_aload_n G.hx G.hb (dcs_get dec_X12_endsBy_0 0 rfl) rfl (lv_at hl 0 rfl) ?_
  obtain ⟨z8, e_z8, ok_z8, hf⟩ := cR_some hf
  have k_z8 := okr_in ok_z8
  refine r_getr (k := 52) cls12 fi_12_52.1 fi_12_52.2 q_1060 G w k_a0.1 k_a0.2 e_z8 (dcs_get dec_X12_endsBy_0 1 rfl) ?_
  refine lv_iload_n G.hx G.hb (dcs_get dec_X12_endsBy_0 2 rfl) rfl (lv_at hl 2 rfl) ?_
  obtain ⟨h9, hf⟩ := cG_some hf
  refine r_iald G w k_z8.1 k_z8.2 h9 (dcs_get dec_X12_endsBy_0 3 rfl) ?_
  refine lv_iload_n G.hx G.hb (dcs_get dec_X12_endsBy_0 4 rfl) rfl (lv_at hl 1 rfl) ?_
  refine lv_ishr G.hx G.hb (dcs_get dec_X12_endsBy_0 5 rfl) ?_
  refine lv_iconst (v := (1 : Int32)) G.hx G.hb (dcs_get dec_X12_endsBy_0 6 rfl) (by decide) ?_
  refine lv_iand G.hx G.hb (dcs_get dec_X12_endsBy_0 7 rfl) ?_
  refine lv_if_ne (tgt := 15) G.hx G.hb (dcs_get dec_X12_endsBy_0 8 rfl) (by decide) (fun hc => ?_) (fun hc => ?_)
  · rw [if_neg hc] at hf
    refine lv_iconst (v := (0 : Int32)) G.hx G.hb (dcs_get dec_X12_endsBy_0 11 rfl) (by decide) ?_
    refine lv_istore (lv' := [(5, .int (0 : Int32)), (0, .ref (ad a0)), (1, .int l1), (2, .int l2), (3, .int l3), (4, .int l4)]) G.hx G.hb (dcs_get dec_X12_endsBy_0 12 rfl) hl (by decide) rfl (fun ls hl => ?_)
    exact B_X12_endsBy_18 a0 l2 l3 l4 (0 : Int32) σ G hm ok_a0 hf  w (lv_sub hl [1, 3, 4, 5, 0] rfl)
  · rw [if_pos hc] at hf
    refine lv_iconst (v := (0 : Int32)) G.hx G.hb (dcs_get dec_X12_endsBy_0 9 rfl) (by decide) ?_
    have e9 := Option.some.inj hf
    exact r_zret rfl G w hm (congrArg Prod.fst e9) (congrArg Prod.snd e9) (dcs_get dec_X12_endsBy_0 10 rfl)
end
set_option maxRecDepth 100000 in
set_option maxHeartbeats 4000000 in
theorem C_X12_endsBy {l : Launch} {D : va_G} {ay : Nat → ClassId} {ad : Nat → Nat} (hi : hInj NM ad) (a0 : Nat) (l1 : Int32) (l2 : Int32) (l3 : Int32) (l4 : Int32) (σ : hSt) {r0 : Int32} {σ0 : hSt} (hf : F_X12_endsBy a0 l1 l2 l3 l4 σ = some (r0, σ0)) (ok_a0 : okr kM NM 12 a0 = true) : hM l D ay kM NM ad yX12_endsBy cX12_endsBy 6 ((some .boolean)) (rmK 2 49) [.ref (ad a0), .int l1, .int l2, .int l3, .int l4] σ (cI D ay kM NM ad r0 σ0) := by
  refine hM_in (by decide) hi (Nat.le_of_ble_eq_true rfl) ?_
  intro p e s m below meth c G hm w ls hl
  exact B_X12_endsBy_0 a0 l1 l2 l3 l4 σ G hm ok_a0 hf w (lv_sub hl [0, 1, 2, 3, 4] rfl)

/-! HillDrumsModel.beginsHole(II)Z -/
def DL_X12_beginsHole_0 : List (Nat × Instr × Nat) := [(0, .aload_n 0, 1), (1, .invokevirtual 380, 3), (4, .aload_n 0, 1), (5, .aload_n 0, 1), (6, .getfield 128, 3), (9, .bipush 120, 2), (11, .iaload, 1), (12, .invokevirtual 365, 3), (15, .aload_n 0, 1), (16, .iload_n 1, 1), (17, .iload_n 2, 1), (18, .iconst 0, 1), (19, .invokevirtual 368, 3), (22, .ifCond .ne 5, 3), (25, .iconst 0, 1), (26, .ireturn, 1), (27, .aload_n 0, 1), (28, .iload_n 1, 1), (29, .iload_n 2, 1), (30, .iconst 0, 1), (31, .invokevirtual 371, 3), (34, .pop, 1), (35, .aload_n 0, 1), (36, .getfield 140, 3), (39, .iconst 0, 1), (40, .bipush 100, 2), (42, .iload_n 1, 1), (43, .imul, 1), (44, .bipush 10, 2), (46, .iload_n 2, 1), (47, .imul, 1), (48, .iadd, 1), (49, .iastore, 1), (50, .iconst 1, 1), (51, .ireturn, 1)]
set_option maxRecDepth 100000 in
theorem dec_X12_beginsHole_0 : dcs cX12_beginsHole DL_X12_beginsHole_0 = true := by decide +kernel
theorem lb_X12_beginsHole : lkB yX12_beginsHole cX12_beginsHole 3 ((some .boolean)) 2 := ⟨q_1530, q_14, ⟨by decide, by decide⟩, by decide +kernel⟩
theorem lv_X12_beginsHole : lkV yX12_beginsHole := ⟨q_1529, qs_120⟩
def F_X12_beginsHole (a0 : Nat) (l1 : Int32) (l2 : Int32) (σ : hSt) : Option (Int32 × hSt) :=
(F_X12_copies a0 σ).bind fun σ2 =>
cR (σ2.2.2 a0 54) (okr kM NM 101) fun z3 =>
cG (inb (120 : Int32) (kM z3).2) <|
(F_X12_fillsHearers a0 (σ2.1 z3 (120 : Int32).toNatClampNeg) σ2).bind fun σ6 =>
(F_X12_isLawful a0 l1 l2 (0 : Int32) σ6).bind fun v8 =>
if v8 = 0 then (
some (((0 : Int32), σ6))) else (
cC (F_X12_drumsNow a0 l1 l2 (0 : Int32) σ6) fun v10 σ11 =>
cR (σ11.2.2 a0 61) (okr kM NM 101) fun z12 =>
cG (inb (0 : Int32) (kM z12).2) <|
cL (uI σ11 z12 (0 : Int32).toNatClampNeg (((100 : Int32) * l1) + ((10 : Int32) * l2))) fun σ14 =>
some (((1 : Int32), σ14)))
section
variable {p : Program} {l : Launch} {e : Env} {s : State} {m : MethodId} {args : Array Value} {below : List Frame} {meth : Method} {c : Code} {D : va_G} {ay : Nat → ClassId} {ad : Nat → Nat}
set_option maxRecDepth 100000 in
set_option maxHeartbeats 4000000 in
theorem B_X12_beginsHole_0 {H : Heap} {locs : List Loc} {ls : Array Slot} {r0 : Int32} {σ0 : hSt} (a0 : Nat) (l1 : Int32) (l2 : Int32) (σ : hSt) (G : Gx p m c cX12_beginsHole 3 s args RX12 D ay NM ad (aN NM ad)) (hm : meth.sig.returnType = (some .boolean) ∧ meth.locks = false) (ok_a0 : okr kM NM 12 a0 = true) (hf : F_X12_beginsHole a0 l1 l2 σ = some (r0, σ0))  (w : Wd D ay kM NM ad (aN NM ad) s σ H locs) (hl : lv_has ls 3 [(0, .ref (ad a0)), (1, .int l1), (2, .int l2)]) : W p l e (rmK 4 102) s m args below meth c H locs 0 0 (MQ below (cI D ay kM NM ad r0 σ0) args s 0 0 (aN NM ad)) (F0 m 0 ls []) := by
  have k_a0 := okr_in ok_a0
  unfold F_X12_beginsHole at hf
  refine lv_aload_n G.hx G.hb (dcs_get dec_X12_beginsHole_0 0 rfl) rfl (lv_at hl 0 rfl) ?_
  obtain ⟨σ2, h1, hf⟩ := cB_some hf
  refine a_v (k_V (As := []) (rest := []) cls12 lb_X12_copies lv_X12_copies q_1388 (C_X12_copies G.2.2.1 a0 σ h1 ok_a0) ⟨(Nat.le_of_ble_eq_true rfl), (Nat.le_of_ble_eq_true rfl)⟩ G w k_a0.1 k_a0.2 rfl rfl hl.1 (Nat.le_of_ble_eq_true rfl) (dcs_get dec_X12_beginsHole_0 1 rfl) ⟨Nat.le_refl _, Nat.le_refl _⟩) G w (fun H locs w => ?_)
  refine lv_aload_n G.hx G.hb (dcs_get dec_X12_beginsHole_0 2 rfl) rfl (lv_at hl 0 rfl) ?_
  refine lv_aload_n G.hx G.hb (dcs_get dec_X12_beginsHole_0 3 rfl) rfl (lv_at hl 0 rfl) ?_
  obtain ⟨z3, e_z3, ok_z3, hf⟩ := cR_some hf
  have k_z3 := okr_in ok_z3
  refine r_getr (k := 54) cls12 fi_12_54.1 fi_12_54.2 q_1062 G w k_a0.1 k_a0.2 e_z3 (dcs_get dec_X12_beginsHole_0 4 rfl) ?_
  refine lv_bipush (v := (120 : Int32)) G.hx G.hb (dcs_get dec_X12_beginsHole_0 5 rfl) (by decide) ?_
  obtain ⟨h4, hf⟩ := cG_some hf
  refine r_iald G w k_z3.1 k_z3.2 h4 (dcs_get dec_X12_beginsHole_0 6 rfl) ?_
  obtain ⟨σ6, h5, hf⟩ := cB_some hf
  refine a_v (k_V (As := [.int (σ2.1 z3 (120 : Int32).toNatClampNeg)]) (rest := []) cls12 lb_X12_fillsHearers lv_X12_fillsHearers q_1400 (C_X12_fillsHearers G.2.2.1 a0 (σ2.1 z3 (120 : Int32).toNatClampNeg) σ2 h5 ok_a0) ⟨(Nat.le_of_ble_eq_true rfl), (Nat.le_of_ble_eq_true rfl)⟩ G w k_a0.1 k_a0.2 rfl rfl hl.1 (Nat.le_of_ble_eq_true rfl) (dcs_get dec_X12_beginsHole_0 7 rfl) ⟨Nat.le_refl _, Nat.le_refl _⟩) G w (fun H locs w => ?_)
  refine lv_aload_n G.hx G.hb (dcs_get dec_X12_beginsHole_0 8 rfl) rfl (lv_at hl 0 rfl) ?_
  refine lv_iload_n G.hx G.hb (dcs_get dec_X12_beginsHole_0 9 rfl) rfl (lv_at hl 1 rfl) ?_
  refine lv_iload_n G.hx G.hb (dcs_get dec_X12_beginsHole_0 10 rfl) rfl (lv_at hl 2 rfl) ?_
  refine lv_iconst (v := (0 : Int32)) G.hx G.hb (dcs_get dec_X12_beginsHole_0 11 rfl) (by decide) ?_
  obtain ⟨v8, h7, hf⟩ := cB_some hf
  refine a_i (k_V (As := [.int l1, .int l2, .int (0 : Int32)]) (rest := []) cls12 lb_X12_isLawful lv_X12_isLawful q_1440 (C_X12_isLawful G.2.2.1 a0 l1 l2 (0 : Int32) σ6 h7 ok_a0) ⟨(Nat.le_of_ble_eq_true rfl), (Nat.le_of_ble_eq_true rfl)⟩ G w k_a0.1 k_a0.2 rfl rfl hl.1 (Nat.le_of_ble_eq_true rfl) (dcs_get dec_X12_beginsHole_0 12 rfl) ⟨Nat.le_refl _, Nat.le_refl _⟩) G w (fun H locs w => ?_)
  refine lv_if_ne (tgt := 27) G.hx G.hb (dcs_get dec_X12_beginsHole_0 13 rfl) (by decide) (fun hc => ?_) (fun hc => ?_)
  · rw [if_neg hc] at hf
    refine lv_aload_n G.hx G.hb (dcs_get dec_X12_beginsHole_0 16 rfl) rfl (lv_at hl 0 rfl) ?_
    refine lv_iload_n G.hx G.hb (dcs_get dec_X12_beginsHole_0 17 rfl) rfl (lv_at hl 1 rfl) ?_
    refine lv_iload_n G.hx G.hb (dcs_get dec_X12_beginsHole_0 18 rfl) rfl (lv_at hl 2 rfl) ?_
    refine lv_iconst (v := (0 : Int32)) G.hx G.hb (dcs_get dec_X12_beginsHole_0 19 rfl) (by decide) ?_
    obtain ⟨v10, σ11, h9, hf⟩ := cC_some hf
    refine a_i (k_V (As := [.int l1, .int l2, .int (0 : Int32)]) (rest := []) cls12 lb_X12_drumsNow lv_X12_drumsNow q_1404 (C_X12_drumsNow G.2.2.1 a0 l1 l2 (0 : Int32) σ6 h9 ok_a0) ⟨(Nat.le_of_ble_eq_true rfl), (Nat.le_of_ble_eq_true rfl)⟩ G w k_a0.1 k_a0.2 rfl rfl hl.1 (Nat.le_of_ble_eq_true rfl) (dcs_get dec_X12_beginsHole_0 20 rfl) ⟨Nat.le_refl _, Nat.le_refl _⟩) G w (fun H locs w => ?_)
    refine lv_pop G.hx G.hb (dcs_get dec_X12_beginsHole_0 21 rfl) rfl ?_
    refine lv_aload_n G.hx G.hb (dcs_get dec_X12_beginsHole_0 22 rfl) rfl (lv_at hl 0 rfl) ?_
    obtain ⟨z12, e_z12, ok_z12, hf⟩ := cR_some hf
    have k_z12 := okr_in ok_z12
    refine r_getr (k := 61) cls12 fi_12_61.1 fi_12_61.2 q_1069 G w k_a0.1 k_a0.2 e_z12 (dcs_get dec_X12_beginsHole_0 23 rfl) ?_
    refine lv_iconst (v := (0 : Int32)) G.hx G.hb (dcs_get dec_X12_beginsHole_0 24 rfl) (by decide) ?_
    refine lv_bipush (v := (100 : Int32)) G.hx G.hb (dcs_get dec_X12_beginsHole_0 25 rfl) (by decide) ?_
    refine lv_iload_n G.hx G.hb (dcs_get dec_X12_beginsHole_0 26 rfl) rfl (lv_at hl 1 rfl) ?_
    refine lv_imul G.hx G.hb (dcs_get dec_X12_beginsHole_0 27 rfl) ?_
    refine lv_bipush (v := (10 : Int32)) G.hx G.hb (dcs_get dec_X12_beginsHole_0 28 rfl) (by decide) ?_
    refine lv_iload_n G.hx G.hb (dcs_get dec_X12_beginsHole_0 29 rfl) rfl (lv_at hl 2 rfl) ?_
    refine lv_imul G.hx G.hb (dcs_get dec_X12_beginsHole_0 30 rfl) ?_
    refine lv_iadd G.hx G.hb (dcs_get dec_X12_beginsHole_0 31 rfl) ?_
    obtain ⟨h13, hf⟩ := cG_some hf
    obtain ⟨σ14, e_σ14, hf⟩ := cL_some hf
    refine r_iast G w k_z12.1 k_z12.2 h13 (dcs_get dec_X12_beginsHole_0 32 rfl) (fun H locs w => ?_)
    have w := Wd.nm e_σ14 w
    refine lv_iconst (v := (1 : Int32)) G.hx G.hb (dcs_get dec_X12_beginsHole_0 33 rfl) (by decide) ?_
    have e9 := Option.some.inj hf
    exact r_zret rfl G w hm (congrArg Prod.fst e9) (congrArg Prod.snd e9) (dcs_get dec_X12_beginsHole_0 34 rfl)
  · rw [if_pos hc] at hf
    refine lv_iconst (v := (0 : Int32)) G.hx G.hb (dcs_get dec_X12_beginsHole_0 14 rfl) (by decide) ?_
    have e9 := Option.some.inj hf
    exact r_zret rfl G w hm (congrArg Prod.fst e9) (congrArg Prod.snd e9) (dcs_get dec_X12_beginsHole_0 15 rfl)
end
set_option maxRecDepth 100000 in
set_option maxHeartbeats 4000000 in
theorem C_X12_beginsHole {l : Launch} {D : va_G} {ay : Nat → ClassId} {ad : Nat → Nat} (hi : hInj NM ad) (a0 : Nat) (l1 : Int32) (l2 : Int32) (σ : hSt) {r0 : Int32} {σ0 : hSt} (hf : F_X12_beginsHole a0 l1 l2 σ = some (r0, σ0)) (ok_a0 : okr kM NM 12 a0 = true) : hM l D ay kM NM ad yX12_beginsHole cX12_beginsHole 3 ((some .boolean)) (rmK 4 102) [.ref (ad a0), .int l1, .int l2] σ (cI D ay kM NM ad r0 σ0) := by
  refine hM_in (by decide) hi (Nat.le_of_ble_eq_true rfl) ?_
  intro p e s m below meth c G hm w ls hl
  exact B_X12_beginsHole_0 a0 l1 l2 σ G hm ok_a0 hf w (lv_sub hl [0, 1, 2] rfl)

/-! HillDrumsModel.findsHole(III)Z -/
def DL_X12_findsHole_0 : List (Nat × Instr × Nat) := [(0, .aload_n 0, 1), (1, .iload_n 1, 1), (2, .iload_n 3, 1), (3, .invokevirtual 423, 3), (6, .ifCond .ne 5, 3), (9, .iconst 0, 1), (10, .ireturn, 1), (11, .aload_n 0, 1), (12, .iload_n 1, 1), (13, .iload_n 2, 1), (14, .iload_n 3, 1), (15, .iconst 2, 1), (16, .invokevirtual 426, 3), (19, .ifCond .eq 5, 3), (22, .iconst 1, 1), (23, .ireturn, 1), (24, .iconst 0, 1), (25, .istore 4, 2), (27, .iload 4, 2), (29, .aload_n 0, 1), (30, .getfield 49, 3), (33, .aload_n 0, 1), (34, .getfield 236, 3), (37, .iaload, 1), (38, .if_icmp .ge 114, 3), (41, .iconst 0, 1), (42, .istore 5, 2), (44, .iload 5, 2), (46, .aload_n 0, 1), (47, .getfield 58, 3), (50, .aload_n 0, 1), (51, .getfield 236, 3), (54, .iaload, 1), (55, .if_icmp .ge 91, 3), (58, .iconst 0, 1), (59, .istore 6, 2), (61, .iload 6, 2), (63, .iconst 2, 1), (64, .if_icmp .ge 76, 3), (67, .aload_n 0, 1)]
set_option maxRecDepth 100000 in
theorem dec_X12_findsHole_0 : dcs cX12_findsHole DL_X12_findsHole_0 = true := by decide +kernel
def DL_X12_findsHole_1 : List (Nat × Instr × Nat) := [(68, .iload_n 1, 1), (69, .iload_n 3, 1), (70, .invokevirtual 423, 3), (73, .pop, 1), (74, .aload_n 0, 1), (75, .iload 4, 2), (77, .iload 5, 2), (79, .iload 6, 2), (81, .invokevirtual 368, 3), (84, .ifCond .ne 6, 3), (87, .goto 47, 3), (90, .aload_n 0, 1), (91, .iload 4, 2), (93, .iload 5, 2), (95, .iload 6, 2), (97, .invokevirtual 371, 3), (100, .pop, 1), (101, .aload_n 0, 1), (102, .getfield 140, 3), (105, .iconst 1, 1), (106, .bipush 100, 2), (108, .iload 4, 2), (110, .imul, 1), (111, .bipush 10, 2), (113, .iload 5, 2), (115, .imul, 1), (116, .iadd, 1), (117, .iload 6, 2), (119, .iadd, 1), (120, .iastore, 1), (121, .aload_n 0, 1), (122, .iload_n 1, 1), (123, .iload_n 2, 1), (124, .iload_n 3, 1), (125, .iconst 3, 1), (126, .invokevirtual 426, 3), (129, .ifCond .eq 5, 3), (132, .iconst 1, 1), (133, .ireturn, 1), (134, .iinc 6 1, 3)]
set_option maxRecDepth 100000 in
theorem dec_X12_findsHole_1 : dcs cX12_findsHole DL_X12_findsHole_1 = true := by decide +kernel
def DL_X12_findsHole_2 : List (Nat × Instr × Nat) := [(137, .goto (-76), 3), (140, .iinc 5 1, 3), (143, .goto (-99), 3), (146, .iinc 4 1, 3), (149, .goto (-122), 3), (152, .iconst 0, 1), (153, .ireturn, 1)]
set_option maxRecDepth 100000 in
theorem dec_X12_findsHole_2 : dcs cX12_findsHole DL_X12_findsHole_2 = true := by decide +kernel
theorem lb_X12_findsHole : lkB yX12_findsHole cX12_findsHole 7 ((some .boolean)) 3 := ⟨q_1526, q_14, ⟨by decide, by decide⟩, by decide +kernel⟩
theorem lv_X12_findsHole : lkV yX12_findsHole := ⟨q_1525, qs_119⟩
def F_X12_findsHole_134 (a0 : Nat) (l1 : Int32) (l2 : Int32) (l3 : Int32) (l4 : Int32) (l5 : Int32) (l6 : Int32) (σ : hSt) : Option ((Int32 × hSt) ⊕ ((Int32 × hSt) ⊕ ((Int32 × hSt) ⊕ (Int32 × hSt)))) :=
cL (l6 + (1 : Int32)) fun v1 =>
some (.inl (v1, σ))
def F_X12_findsHole_61b (a0 : Nat) (l1 : Int32) (l2 : Int32) (l3 : Int32) (l4 : Int32) (l5 : Int32) (l6 : Int32) (σ : hSt) : Option ((Int32 × hSt) ⊕ ((Int32 × hSt) ⊕ ((Int32 × hSt) ⊕ (Int32 × hSt)))) :=
if (2 : Int32) ≤ l6 then (
cL (l5 + (1 : Int32)) fun v2 =>
some (.inr (.inl (v2, σ)))) else (
cC (F_X12_beginsHole a0 l1 l3 σ) fun v4 σ5 =>
(F_X12_isLawful a0 l4 l5 l6 σ5).bind fun v7 =>
if v7 = 0 then (
F_X12_findsHole_134 a0 l1 l2 l3 l4 l5 l6 σ5) else (
cC (F_X12_drumsNow a0 l4 l5 l6 σ5) fun v9 σ10 =>
cR (σ10.2.2 a0 61) (okr kM NM 101) fun z11 =>
cG (inb (1 : Int32) (kM z11).2) <|
cL (uI σ10 z11 (1 : Int32).toNatClampNeg ((((100 : Int32) * l4) + ((10 : Int32) * l5)) + l6)) fun σ13 =>
cC (F_X12_endsBy a0 l1 l2 l3 (3 : Int32) σ13) fun v15 σ16 =>
if v15 = 0 then (
F_X12_findsHole_134 a0 l1 l2 l3 l4 l5 l6 σ16) else (
some (.inr (.inr (.inr (((1 : Int32), σ16))))))))
def S_X12_findsHole_61 (a0 : Nat) (l1 : Int32) (l2 : Int32) (l3 : Int32) (l4 : Int32) (l5 : Int32) (v : Int32 × hSt) : Option ((Int32 × hSt) ⊕ ((Int32 × hSt) ⊕ ((Int32 × hSt) ⊕ (Int32 × hSt)))) := F_X12_findsHole_61b a0 l1 l2 l3 l4 l5 v.1 v.2
def F_X12_findsHole_61 (a0 : Nat) (l1 : Int32) (l2 : Int32) (l3 : Int32) (l4 : Int32) (l5 : Int32) (l6 : Int32) (σ : hSt) : Option ((Int32 × hSt) ⊕ ((Int32 × hSt) ⊕ (Int32 × hSt))) := lp (S_X12_findsHole_61 a0 l1 l2 l3 l4 l5) fuel (l6, σ)
def F_X12_findsHole_44b (a0 : Nat) (l1 : Int32) (l2 : Int32) (l3 : Int32) (l4 : Int32) (l5 : Int32) (σ : hSt) : Option ((Int32 × hSt) ⊕ ((Int32 × hSt) ⊕ (Int32 × hSt))) :=
cR (σ.2.2 a0 27) (okr kM NM 101) fun z17 =>
cG (inb (σ.1 a0 18) (kM z17).2) <|
if (σ.1 z17 (σ.1 a0 18).toNatClampNeg) ≤ l5 then (
cL (l4 + (1 : Int32)) fun v19 =>
some (.inr (.inl (v19, σ)))) else (
F_X12_findsHole_61 a0 l1 l2 l3 l4 l5 (0 : Int32) σ)
def S_X12_findsHole_44 (a0 : Nat) (l1 : Int32) (l2 : Int32) (l3 : Int32) (l4 : Int32) (v : Int32 × hSt) : Option ((Int32 × hSt) ⊕ ((Int32 × hSt) ⊕ (Int32 × hSt))) := F_X12_findsHole_44b a0 l1 l2 l3 l4 v.1 v.2
def F_X12_findsHole_44 (a0 : Nat) (l1 : Int32) (l2 : Int32) (l3 : Int32) (l4 : Int32) (l5 : Int32) (σ : hSt) : Option ((Int32 × hSt) ⊕ (Int32 × hSt)) := lp (S_X12_findsHole_44 a0 l1 l2 l3 l4) fuel (l5, σ)
def F_X12_findsHole_27b (a0 : Nat) (l1 : Int32) (l2 : Int32) (l3 : Int32) (l4 : Int32) (σ : hSt) : Option ((Int32 × hSt) ⊕ (Int32 × hSt)) :=
cR (σ.2.2 a0 24) (okr kM NM 101) fun z20 =>
cG (inb (σ.1 a0 18) (kM z20).2) <|
if (σ.1 z20 (σ.1 a0 18).toNatClampNeg) ≤ l4 then (
some (.inr (((0 : Int32), σ)))) else (
F_X12_findsHole_44 a0 l1 l2 l3 l4 (0 : Int32) σ)
def S_X12_findsHole_27 (a0 : Nat) (l1 : Int32) (l2 : Int32) (l3 : Int32) (v : Int32 × hSt) : Option ((Int32 × hSt) ⊕ (Int32 × hSt)) := F_X12_findsHole_27b a0 l1 l2 l3 v.1 v.2
def F_X12_findsHole_27 (a0 : Nat) (l1 : Int32) (l2 : Int32) (l3 : Int32) (l4 : Int32) (σ : hSt) : Option (Int32 × hSt) := lp (S_X12_findsHole_27 a0 l1 l2 l3) fuel (l4, σ)
def F_X12_findsHole (a0 : Nat) (l1 : Int32) (l2 : Int32) (l3 : Int32) (σ : hSt) : Option (Int32 × hSt) :=
cC (F_X12_beginsHole a0 l1 l3 σ) fun v23 σ24 =>
if v23 = 0 then (
some (((0 : Int32), σ24))) else (
cC (F_X12_endsBy a0 l1 l2 l3 (2 : Int32) σ24) fun v26 σ27 =>
if v26 = 0 then (
F_X12_findsHole_27 a0 l1 l2 l3 (0 : Int32) σ27) else (
some (((1 : Int32), σ27))))
section
variable {p : Program} {l : Launch} {e : Env} {s : State} {m : MethodId} {args : Array Value} {below : List Frame} {meth : Method} {c : Code} {D : va_G} {ay : Nat → ClassId} {ad : Nat → Nat}
set_option maxRecDepth 100000 in
set_option maxHeartbeats 4000000 in
theorem B_X12_findsHole_134 {H : Heap} {locs : List Loc} {ls : Array Slot} {r0 : Int32} {σ0 : hSt} {o : (Int32 × hSt) ⊕ ((Int32 × hSt) ⊕ ((Int32 × hSt) ⊕ (Int32 × hSt)))} (a0 : Nat) (l1 : Int32) (l2 : Int32) (l3 : Int32) (l4 : Int32) (l5 : Int32) (l6 : Int32) (σ : hSt) (G : Gx p m c cX12_findsHole 7 s args RX12 D ay NM ad (aN NM ad)) (hm : meth.sig.returnType = (some .boolean) ∧ meth.locks = false) (ok_a0 : okr kM NM 12 a0 = true) (hf : F_X12_findsHole_134 a0 l1 l2 l3 l4 l5 l6 σ = some o) (hb0 : ∀ (v : Int32 × hSt), o = .inr (.inr (.inl v)) → ∀ (H : Heap) (locs : List Loc) (ls : Array Slot), Wd D ay kM NM ad (aN NM ad) s v.2 H locs → lv_has ls 7 [(0, .ref (ad a0)), (1, .int l1), (2, .int l2), (3, .int l3), (4, .int v.1)] → W p l e (rmK 5 124) s m args below meth c H locs 0 0 (MQ below (cI D ay kM NM ad r0 σ0) args s 0 0 (aN NM ad)) (F0 m 27 ls [])) (hb1 : ∀ (v : Int32 × hSt), o = .inr (.inl v) → ∀ (H : Heap) (locs : List Loc) (ls : Array Slot), Wd D ay kM NM ad (aN NM ad) s v.2 H locs → lv_has ls 7 [(0, .ref (ad a0)), (1, .int l1), (2, .int l2), (3, .int l3), (4, .int l4), (5, .int v.1)] → W p l e (rmK 5 124) s m args below meth c H locs 0 0 (MQ below (cI D ay kM NM ad r0 σ0) args s 0 0 (aN NM ad)) (F0 m 44 ls [])) (hb2 : ∀ (v : Int32 × hSt), o = .inl v → ∀ (H : Heap) (locs : List Loc) (ls : Array Slot), Wd D ay kM NM ad (aN NM ad) s v.2 H locs → lv_has ls 7 [(0, .ref (ad a0)), (1, .int l1), (2, .int l2), (3, .int l3), (4, .int l4), (5, .int l5), (6, .int v.1)] → W p l e (rmK 5 124) s m args below meth c H locs 0 0 (MQ below (cI D ay kM NM ad r0 σ0) args s 0 0 (aN NM ad)) (F0 m 61 ls [])) (hr : ∀ x, o = .inr (.inr (.inr (x))) → x = (r0, σ0)) (w : Wd D ay kM NM ad (aN NM ad) s σ H locs) (hl : lv_has ls 7 [(0, .ref (ad a0)), (1, .int l1), (2, .int l2), (3, .int l3), (4, .int l4), (5, .int l5), (6, .int l6)]) : W p l e (rmK 5 124) s m args below meth c H locs 0 0 (MQ below (cI D ay kM NM ad r0 σ0) args s 0 0 (aN NM ad)) (F0 m 134 ls []) := by
  have k_a0 := okr_in ok_a0
  unfold F_X12_findsHole_134 at hf
  obtain ⟨v1, e_v1, hf⟩ := cL_some hf
  refine lv_iinc (v := v1) (lv' := [(6, .int v1), (0, .ref (ad a0)), (1, .int l1), (2, .int l2), (3, .int l3), (4, .int l4), (5, .int l5)]) G.hx G.hb (dcs_get dec_X12_findsHole_1 39 rfl) hl (k := 6) rfl (by rw [e_v1]; rfl) (by decide) rfl (fun ls hl => ?_)
  refine lv_goto (tgt := 61) G.hx G.hb (dcs_get dec_X12_findsHole_2 0 rfl) (by decide) ?_
  exact hb2 _ (Option.some.inj hf).symm _ _ _ w (lv_sub hl [1, 2, 3, 4, 5, 6, 0] rfl)
set_option maxRecDepth 100000 in
set_option maxHeartbeats 4000000 in
theorem B_X12_findsHole_61b {H : Heap} {locs : List Loc} {ls : Array Slot} {r0 : Int32} {σ0 : hSt} {o : (Int32 × hSt) ⊕ ((Int32 × hSt) ⊕ ((Int32 × hSt) ⊕ (Int32 × hSt)))} (a0 : Nat) (l1 : Int32) (l2 : Int32) (l3 : Int32) (l4 : Int32) (l5 : Int32) (l6 : Int32) (σ : hSt) (G : Gx p m c cX12_findsHole 7 s args RX12 D ay NM ad (aN NM ad)) (hm : meth.sig.returnType = (some .boolean) ∧ meth.locks = false) (ok_a0 : okr kM NM 12 a0 = true) (hf : F_X12_findsHole_61b a0 l1 l2 l3 l4 l5 l6 σ = some o) (hb0 : ∀ (v : Int32 × hSt), o = .inr (.inr (.inl v)) → ∀ (H : Heap) (locs : List Loc) (ls : Array Slot), Wd D ay kM NM ad (aN NM ad) s v.2 H locs → lv_has ls 7 [(0, .ref (ad a0)), (1, .int l1), (2, .int l2), (3, .int l3), (4, .int v.1)] → W p l e (rmK 5 124) s m args below meth c H locs 0 0 (MQ below (cI D ay kM NM ad r0 σ0) args s 0 0 (aN NM ad)) (F0 m 27 ls [])) (hb1 : ∀ (v : Int32 × hSt), o = .inr (.inl v) → ∀ (H : Heap) (locs : List Loc) (ls : Array Slot), Wd D ay kM NM ad (aN NM ad) s v.2 H locs → lv_has ls 7 [(0, .ref (ad a0)), (1, .int l1), (2, .int l2), (3, .int l3), (4, .int l4), (5, .int v.1)] → W p l e (rmK 5 124) s m args below meth c H locs 0 0 (MQ below (cI D ay kM NM ad r0 σ0) args s 0 0 (aN NM ad)) (F0 m 44 ls [])) (hb2 : ∀ (v : Int32 × hSt), o = .inl v → ∀ (H : Heap) (locs : List Loc) (ls : Array Slot), Wd D ay kM NM ad (aN NM ad) s v.2 H locs → lv_has ls 7 [(0, .ref (ad a0)), (1, .int l1), (2, .int l2), (3, .int l3), (4, .int l4), (5, .int l5), (6, .int v.1)] → W p l e (rmK 5 124) s m args below meth c H locs 0 0 (MQ below (cI D ay kM NM ad r0 σ0) args s 0 0 (aN NM ad)) (F0 m 61 ls [])) (hr : ∀ x, o = .inr (.inr (.inr (x))) → x = (r0, σ0)) (w : Wd D ay kM NM ad (aN NM ad) s σ H locs) (hl : lv_has ls 7 [(0, .ref (ad a0)), (1, .int l1), (2, .int l2), (3, .int l3), (4, .int l4), (5, .int l5), (6, .int l6)]) : W p l e (rmK 5 124) s m args below meth c H locs 0 0 (MQ below (cI D ay kM NM ad r0 σ0) args s 0 0 (aN NM ad)) (F0 m 61 ls []) := by
  have k_a0 := okr_in ok_a0
  unfold F_X12_findsHole_61b at hf
  refine lv_iload G.hx G.hb (dcs_get dec_X12_findsHole_0 36 rfl) (lv_at hl 6 rfl) ?_
  refine lv_iconst (v := (2 : Int32)) G.hx G.hb (dcs_get dec_X12_findsHole_0 37 rfl) (by decide) ?_
  refine lv_icmp_ge (tgt := 140) G.hx G.hb (dcs_get dec_X12_findsHole_0 38 rfl) (by decide) (fun hc => ?_) (fun hc => ?_)
  · rw [if_pos hc] at hf
    obtain ⟨v2, e_v2, hf⟩ := cL_some hf
    refine lv_iinc (v := v2) (lv' := [(5, .int v2), (0, .ref (ad a0)), (1, .int l1), (2, .int l2), (3, .int l3), (4, .int l4), (6, .int l6)]) G.hx G.hb (dcs_get dec_X12_findsHole_2 1 rfl) hl (k := 5) rfl (by rw [e_v2]; rfl) (by decide) rfl (fun ls hl => ?_)
    refine lv_goto (tgt := 44) G.hx G.hb (dcs_get dec_X12_findsHole_2 2 rfl) (by decide) ?_
    exact hb1 _ (Option.some.inj hf).symm _ _ _ w (lv_sub hl [1, 2, 3, 4, 5, 0] rfl)
  · rw [if_neg hc] at hf
    refine lv_aload_n G.hx G.hb (dcs_get dec_X12_findsHole_0 39 rfl) rfl (lv_at hl 0 rfl) ?_
    refine lv_iload_n G.hx G.hb (dcs_get dec_X12_findsHole_1 0 rfl) rfl (lv_at hl 1 rfl) ?_
    refine lv_iload_n G.hx G.hb (dcs_get dec_X12_findsHole_1 1 rfl) rfl (lv_at hl 3 rfl) ?_
    obtain ⟨v4, σ5, h3, hf⟩ := cC_some hf
    refine a_i (k_V (As := [.int l1, .int l3]) (rest := []) cls12 lb_X12_beginsHole lv_X12_beginsHole q_1527 (C_X12_beginsHole G.2.2.1 a0 l1 l3 σ h3 ok_a0) ⟨(Nat.le_of_ble_eq_true rfl), (Nat.le_of_ble_eq_true rfl)⟩ G w k_a0.1 k_a0.2 rfl rfl hl.1 (Nat.le_of_ble_eq_true rfl) (dcs_get dec_X12_findsHole_1 2 rfl) ⟨Nat.le_refl _, Nat.le_refl _⟩) G w (fun H locs w => ?_)
    refine lv_pop G.hx G.hb (dcs_get dec_X12_findsHole_1 3 rfl) rfl ?_
    refine lv_aload_n G.hx G.hb (dcs_get dec_X12_findsHole_1 4 rfl) rfl (lv_at hl 0 rfl) ?_
    refine lv_iload G.hx G.hb (dcs_get dec_X12_findsHole_1 5 rfl) (lv_at hl 4 rfl) ?_
    refine lv_iload G.hx G.hb (dcs_get dec_X12_findsHole_1 6 rfl) (lv_at hl 5 rfl) ?_
    refine lv_iload G.hx G.hb (dcs_get dec_X12_findsHole_1 7 rfl) (lv_at hl 6 rfl) ?_
    obtain ⟨v7, h6, hf⟩ := cB_some hf
    refine a_i (k_V (As := [.int l4, .int l5, .int l6]) (rest := []) cls12 lb_X12_isLawful lv_X12_isLawful q_1440 (C_X12_isLawful G.2.2.1 a0 l4 l5 l6 σ5 h6 ok_a0) ⟨(Nat.le_of_ble_eq_true rfl), (Nat.le_of_ble_eq_true rfl)⟩ G w k_a0.1 k_a0.2 rfl rfl hl.1 (Nat.le_of_ble_eq_true rfl) (dcs_get dec_X12_findsHole_1 8 rfl) ⟨Nat.le_refl _, Nat.le_refl _⟩) G w (fun H locs w => ?_)
    refine lv_if_ne (tgt := 90) G.hx G.hb (dcs_get dec_X12_findsHole_1 9 rfl) (by decide) (fun hc => ?_) (fun hc => ?_)
    · rw [if_neg hc] at hf
      refine lv_aload_n G.hx G.hb (dcs_get dec_X12_findsHole_1 11 rfl) rfl (lv_at hl 0 rfl) ?_
      refine lv_iload G.hx G.hb (dcs_get dec_X12_findsHole_1 12 rfl) (lv_at hl 4 rfl) ?_
      refine lv_iload G.hx G.hb (dcs_get dec_X12_findsHole_1 13 rfl) (lv_at hl 5 rfl) ?_
      refine lv_iload G.hx G.hb (dcs_get dec_X12_findsHole_1 14 rfl) (lv_at hl 6 rfl) ?_
      obtain ⟨v9, σ10, h8, hf⟩ := cC_some hf
      refine a_i (k_V (As := [.int l4, .int l5, .int l6]) (rest := []) cls12 lb_X12_drumsNow lv_X12_drumsNow q_1404 (C_X12_drumsNow G.2.2.1 a0 l4 l5 l6 σ5 h8 ok_a0) ⟨(Nat.le_of_ble_eq_true rfl), (Nat.le_of_ble_eq_true rfl)⟩ G w k_a0.1 k_a0.2 rfl rfl hl.1 (Nat.le_of_ble_eq_true rfl) (dcs_get dec_X12_findsHole_1 15 rfl) ⟨Nat.le_refl _, Nat.le_refl _⟩) G w (fun H locs w => ?_)
      refine lv_pop G.hx G.hb (dcs_get dec_X12_findsHole_1 16 rfl) rfl ?_
      refine lv_aload_n G.hx G.hb (dcs_get dec_X12_findsHole_1 17 rfl) rfl (lv_at hl 0 rfl) ?_
      obtain ⟨z11, e_z11, ok_z11, hf⟩ := cR_some hf
      have k_z11 := okr_in ok_z11
      refine r_getr (k := 61) cls12 fi_12_61.1 fi_12_61.2 q_1069 G w k_a0.1 k_a0.2 e_z11 (dcs_get dec_X12_findsHole_1 18 rfl) ?_
      refine lv_iconst (v := (1 : Int32)) G.hx G.hb (dcs_get dec_X12_findsHole_1 19 rfl) (by decide) ?_
      refine lv_bipush (v := (100 : Int32)) G.hx G.hb (dcs_get dec_X12_findsHole_1 20 rfl) (by decide) ?_
      refine lv_iload G.hx G.hb (dcs_get dec_X12_findsHole_1 21 rfl) (lv_at hl 4 rfl) ?_
      refine lv_imul G.hx G.hb (dcs_get dec_X12_findsHole_1 22 rfl) ?_
      refine lv_bipush (v := (10 : Int32)) G.hx G.hb (dcs_get dec_X12_findsHole_1 23 rfl) (by decide) ?_
      refine lv_iload G.hx G.hb (dcs_get dec_X12_findsHole_1 24 rfl) (lv_at hl 5 rfl) ?_
      refine lv_imul G.hx G.hb (dcs_get dec_X12_findsHole_1 25 rfl) ?_
      refine lv_iadd G.hx G.hb (dcs_get dec_X12_findsHole_1 26 rfl) ?_
      refine lv_iload G.hx G.hb (dcs_get dec_X12_findsHole_1 27 rfl) (lv_at hl 6 rfl) ?_
      refine lv_iadd G.hx G.hb (dcs_get dec_X12_findsHole_1 28 rfl) ?_
      obtain ⟨h12, hf⟩ := cG_some hf
      obtain ⟨σ13, e_σ13, hf⟩ := cL_some hf
      refine r_iast G w k_z11.1 k_z11.2 h12 (dcs_get dec_X12_findsHole_1 29 rfl) (fun H locs w => ?_)
      have w := Wd.nm e_σ13 w
      refine lv_aload_n G.hx G.hb (dcs_get dec_X12_findsHole_1 30 rfl) rfl (lv_at hl 0 rfl) ?_
      refine lv_iload_n G.hx G.hb (dcs_get dec_X12_findsHole_1 31 rfl) rfl (lv_at hl 1 rfl) ?_
      refine lv_iload_n G.hx G.hb (dcs_get dec_X12_findsHole_1 32 rfl) rfl (lv_at hl 2 rfl) ?_
      refine lv_iload_n G.hx G.hb (dcs_get dec_X12_findsHole_1 33 rfl) rfl (lv_at hl 3 rfl) ?_
      refine lv_iconst (v := (3 : Int32)) G.hx G.hb (dcs_get dec_X12_findsHole_1 34 rfl) (by decide) ?_
      obtain ⟨v15, σ16, h14, hf⟩ := cC_some hf
      refine a_i (k_V (As := [.int l1, .int l2, .int l3, .int (3 : Int32)]) (rest := []) cls12 lb_X12_endsBy lv_X12_endsBy q_1531 (C_X12_endsBy G.2.2.1 a0 l1 l2 l3 (3 : Int32) σ13 h14 ok_a0) ⟨(Nat.le_of_ble_eq_true rfl), (Nat.le_of_ble_eq_true rfl)⟩ G w k_a0.1 k_a0.2 rfl rfl hl.1 (Nat.le_of_ble_eq_true rfl) (dcs_get dec_X12_findsHole_1 35 rfl) ⟨Nat.le_refl _, Nat.le_refl _⟩) G w (fun H locs w => ?_)
      refine lv_if_eq (tgt := 134) G.hx G.hb (dcs_get dec_X12_findsHole_1 36 rfl) (by decide) (fun hc => ?_) (fun hc => ?_)
      · rw [if_pos hc] at hf
        exact B_X12_findsHole_134 a0 l1 l2 l3 l4 l5 l6 σ16 G hm ok_a0 hf hb0 hb1 hb2 hr w (lv_sub hl [0, 1, 2, 3, 4, 5, 6] rfl)
      · rw [if_neg hc] at hf
        refine lv_iconst (v := (1 : Int32)) G.hx G.hb (dcs_get dec_X12_findsHole_1 37 rfl) (by decide) ?_
        have e9 := hr _ (Option.some.inj hf).symm
        exact r_zret rfl G w hm (congrArg Prod.fst e9) (congrArg Prod.snd e9) (dcs_get dec_X12_findsHole_1 38 rfl)
    · rw [if_pos hc] at hf
      refine lv_goto (tgt := 134) G.hx G.hb (dcs_get dec_X12_findsHole_1 10 rfl) (by decide) ?_
      exact B_X12_findsHole_134 a0 l1 l2 l3 l4 l5 l6 σ5 G hm ok_a0 hf hb0 hb1 hb2 hr w (lv_sub hl [0, 1, 2, 3, 4, 5, 6] rfl)
set_option maxRecDepth 100000 in
set_option maxHeartbeats 4000000 in
theorem H_X12_findsHole_61 {r0 : Int32} {σ0 : hSt} {o : (Int32 × hSt) ⊕ ((Int32 × hSt) ⊕ (Int32 × hSt))} (a0 : Nat) (l1 : Int32) (l2 : Int32) (l3 : Int32) (l4 : Int32) (l5 : Int32) (G : Gx p m c cX12_findsHole 7 s args RX12 D ay NM ad (aN NM ad)) (hm : meth.sig.returnType = (some .boolean) ∧ meth.locks = false) (ok_a0 : okr kM NM 12 a0 = true) (hb0 : ∀ (v : Int32 × hSt), o = .inr (.inl v) → ∀ (H : Heap) (locs : List Loc) (ls : Array Slot), Wd D ay kM NM ad (aN NM ad) s v.2 H locs → lv_has ls 7 [(0, .ref (ad a0)), (1, .int l1), (2, .int l2), (3, .int l3), (4, .int v.1)] → W p l e (rmK 5 124) s m args below meth c H locs 0 0 (MQ below (cI D ay kM NM ad r0 σ0) args s 0 0 (aN NM ad)) (F0 m 27 ls [])) (hb1 : ∀ (v : Int32 × hSt), o = .inl v → ∀ (H : Heap) (locs : List Loc) (ls : Array Slot), Wd D ay kM NM ad (aN NM ad) s v.2 H locs → lv_has ls 7 [(0, .ref (ad a0)), (1, .int l1), (2, .int l2), (3, .int l3), (4, .int l4), (5, .int v.1)] → W p l e (rmK 5 124) s m args below meth c H locs 0 0 (MQ below (cI D ay kM NM ad r0 σ0) args s 0 0 (aN NM ad)) (F0 m 44 ls [])) (hr : ∀ x, o = .inr (.inr (x)) → x = (r0, σ0)) : ∀ (k : Nat) (v : Int32 × hSt), lp (S_X12_findsHole_61 a0 l1 l2 l3 l4 l5) k v = some o → ∀ (H : Heap) (locs : List Loc) (ls : Array Slot), Wd D ay kM NM ad (aN NM ad) s v.2 H locs → lv_has ls 7 [(0, .ref (ad a0)), (1, .int l1), (2, .int l2), (3, .int l3), (4, .int l4), (5, .int l5), (6, .int v.1)] → W p l e (rmK 5 124) s m args below meth c H locs 0 0 (MQ below (cI D ay kM NM ad r0 σ0) args s 0 0 (aN NM ad)) (F0 m 61 ls []) := by
  intro k
  induction k with
  | zero => intro v hf; cases hf
  | succ k ih =>
    intro v hf H locs ls w hl
    obtain ⟨o1, h1, h2, h3⟩ := lp_some hf
    exact B_X12_findsHole_61b a0 l1 l2 l3 l4 l5 v.1 v.2 G hm ok_a0 h1 (fun v' e => hb0 v' (h3 _ e).symm) (fun v' e => hb1 v' (h3 _ e).symm) (fun v' e => ih v' (h2 v' e)) (fun x e => hr x (h3 _ e).symm) w hl
set_option maxRecDepth 100000 in
set_option maxHeartbeats 4000000 in
theorem B_X12_findsHole_61 {H : Heap} {locs : List Loc} {ls : Array Slot} {r0 : Int32} {σ0 : hSt} {o : (Int32 × hSt) ⊕ ((Int32 × hSt) ⊕ (Int32 × hSt))} (a0 : Nat) (l1 : Int32) (l2 : Int32) (l3 : Int32) (l4 : Int32) (l5 : Int32) (l6 : Int32) (σ : hSt) (G : Gx p m c cX12_findsHole 7 s args RX12 D ay NM ad (aN NM ad)) (hm : meth.sig.returnType = (some .boolean) ∧ meth.locks = false) (ok_a0 : okr kM NM 12 a0 = true) (hf : F_X12_findsHole_61 a0 l1 l2 l3 l4 l5 l6 σ = some o) (hb0 : ∀ (v : Int32 × hSt), o = .inr (.inl v) → ∀ (H : Heap) (locs : List Loc) (ls : Array Slot), Wd D ay kM NM ad (aN NM ad) s v.2 H locs → lv_has ls 7 [(0, .ref (ad a0)), (1, .int l1), (2, .int l2), (3, .int l3), (4, .int v.1)] → W p l e (rmK 5 124) s m args below meth c H locs 0 0 (MQ below (cI D ay kM NM ad r0 σ0) args s 0 0 (aN NM ad)) (F0 m 27 ls [])) (hb1 : ∀ (v : Int32 × hSt), o = .inl v → ∀ (H : Heap) (locs : List Loc) (ls : Array Slot), Wd D ay kM NM ad (aN NM ad) s v.2 H locs → lv_has ls 7 [(0, .ref (ad a0)), (1, .int l1), (2, .int l2), (3, .int l3), (4, .int l4), (5, .int v.1)] → W p l e (rmK 5 124) s m args below meth c H locs 0 0 (MQ below (cI D ay kM NM ad r0 σ0) args s 0 0 (aN NM ad)) (F0 m 44 ls [])) (hr : ∀ x, o = .inr (.inr (x)) → x = (r0, σ0)) (w : Wd D ay kM NM ad (aN NM ad) s σ H locs) (hl : lv_has ls 7 [(0, .ref (ad a0)), (1, .int l1), (2, .int l2), (3, .int l3), (4, .int l4), (5, .int l5), (6, .int l6)]) : W p l e (rmK 5 124) s m args below meth c H locs 0 0 (MQ below (cI D ay kM NM ad r0 σ0) args s 0 0 (aN NM ad)) (F0 m 61 ls []) := by
  unfold F_X12_findsHole_61 at hf
  exact H_X12_findsHole_61 a0 l1 l2 l3 l4 l5  G hm ok_a0 hb0 hb1 hr fuel (l6, σ) hf _ _ _ w hl
set_option maxRecDepth 100000 in
set_option maxHeartbeats 4000000 in
theorem B_X12_findsHole_44b {H : Heap} {locs : List Loc} {ls : Array Slot} {r0 : Int32} {σ0 : hSt} {o : (Int32 × hSt) ⊕ ((Int32 × hSt) ⊕ (Int32 × hSt))} (a0 : Nat) (l1 : Int32) (l2 : Int32) (l3 : Int32) (l4 : Int32) (l5 : Int32) (σ : hSt) (G : Gx p m c cX12_findsHole 7 s args RX12 D ay NM ad (aN NM ad)) (hm : meth.sig.returnType = (some .boolean) ∧ meth.locks = false) (ok_a0 : okr kM NM 12 a0 = true) (hf : F_X12_findsHole_44b a0 l1 l2 l3 l4 l5 σ = some o) (hb0 : ∀ (v : Int32 × hSt), o = .inr (.inl v) → ∀ (H : Heap) (locs : List Loc) (ls : Array Slot), Wd D ay kM NM ad (aN NM ad) s v.2 H locs → lv_has ls 7 [(0, .ref (ad a0)), (1, .int l1), (2, .int l2), (3, .int l3), (4, .int v.1)] → W p l e (rmK 5 124) s m args below meth c H locs 0 0 (MQ below (cI D ay kM NM ad r0 σ0) args s 0 0 (aN NM ad)) (F0 m 27 ls [])) (hb1 : ∀ (v : Int32 × hSt), o = .inl v → ∀ (H : Heap) (locs : List Loc) (ls : Array Slot), Wd D ay kM NM ad (aN NM ad) s v.2 H locs → lv_has ls 7 [(0, .ref (ad a0)), (1, .int l1), (2, .int l2), (3, .int l3), (4, .int l4), (5, .int v.1)] → W p l e (rmK 5 124) s m args below meth c H locs 0 0 (MQ below (cI D ay kM NM ad r0 σ0) args s 0 0 (aN NM ad)) (F0 m 44 ls [])) (hr : ∀ x, o = .inr (.inr (x)) → x = (r0, σ0)) (w : Wd D ay kM NM ad (aN NM ad) s σ H locs) (hl : lv_has ls 7 [(0, .ref (ad a0)), (1, .int l1), (2, .int l2), (3, .int l3), (4, .int l4), (5, .int l5)]) : W p l e (rmK 5 124) s m args below meth c H locs 0 0 (MQ below (cI D ay kM NM ad r0 σ0) args s 0 0 (aN NM ad)) (F0 m 44 ls []) := by
  have k_a0 := okr_in ok_a0
  unfold F_X12_findsHole_44b at hf
  refine lv_iload G.hx G.hb (dcs_get dec_X12_findsHole_0 27 rfl) (lv_at hl 5 rfl) ?_
  refine lv_aload_n G.hx G.hb (dcs_get dec_X12_findsHole_0 28 rfl) rfl (lv_at hl 0 rfl) ?_
  obtain ⟨z17, e_z17, ok_z17, hf⟩ := cR_some hf
  have k_z17 := okr_in ok_z17
  refine r_getr (k := 27) cls12 fi_12_27.1 fi_12_27.2 q_1035 G w k_a0.1 k_a0.2 e_z17 (dcs_get dec_X12_findsHole_0 29 rfl) ?_
  refine lv_aload_n G.hx G.hb (dcs_get dec_X12_findsHole_0 30 rfl) rfl (lv_at hl 0 rfl) ?_
  refine r_geti (k := 18) cls12 fi_12_18.1 fi_12_18.2 q_1026 G w k_a0.1 k_a0.2 (dcs_get dec_X12_findsHole_0 31 rfl) ?_
  obtain ⟨h18, hf⟩ := cG_some hf
  refine r_iald G w k_z17.1 k_z17.2 h18 (dcs_get dec_X12_findsHole_0 32 rfl) ?_
  refine lv_icmp_ge (tgt := 146) G.hx G.hb (dcs_get dec_X12_findsHole_0 33 rfl) (by decide) (fun hc => ?_) (fun hc => ?_)
  · rw [if_pos hc] at hf
    obtain ⟨v19, e_v19, hf⟩ := cL_some hf
    refine lv_iinc (v := v19) (lv' := [(4, .int v19), (0, .ref (ad a0)), (1, .int l1), (2, .int l2), (3, .int l3), (5, .int l5)]) G.hx G.hb (dcs_get dec_X12_findsHole_2 3 rfl) hl (k := 4) rfl (by rw [e_v19]; rfl) (by decide) rfl (fun ls hl => ?_)
    refine lv_goto (tgt := 27) G.hx G.hb (dcs_get dec_X12_findsHole_2 4 rfl) (by decide) ?_
    exact hb0 _ (Option.some.inj hf).symm _ _ _ w (lv_sub hl [1, 2, 3, 4, 0] rfl)
  · rw [if_neg hc] at hf
    refine lv_iconst (v := (0 : Int32)) G.hx G.hb (dcs_get dec_X12_findsHole_0 34 rfl) (by decide) ?_
    refine lv_istore (lv' := [(6, .int (0 : Int32)), (0, .ref (ad a0)), (1, .int l1), (2, .int l2), (3, .int l3), (4, .int l4), (5, .int l5)]) G.hx G.hb (dcs_get dec_X12_findsHole_0 35 rfl) hl (by decide) rfl (fun ls hl => ?_)
    exact B_X12_findsHole_61 a0 l1 l2 l3 l4 l5 (0 : Int32) σ G hm ok_a0 hf hb0 hb1 hr w (lv_sub hl [1, 2, 3, 4, 5, 6, 0] rfl)
set_option maxRecDepth 100000 in
set_option maxHeartbeats 4000000 in
theorem H_X12_findsHole_44 {r0 : Int32} {σ0 : hSt} {o : (Int32 × hSt) ⊕ (Int32 × hSt)} (a0 : Nat) (l1 : Int32) (l2 : Int32) (l3 : Int32) (l4 : Int32) (G : Gx p m c cX12_findsHole 7 s args RX12 D ay NM ad (aN NM ad)) (hm : meth.sig.returnType = (some .boolean) ∧ meth.locks = false) (ok_a0 : okr kM NM 12 a0 = true) (hb0 : ∀ (v : Int32 × hSt), o = .inl v → ∀ (H : Heap) (locs : List Loc) (ls : Array Slot), Wd D ay kM NM ad (aN NM ad) s v.2 H locs → lv_has ls 7 [(0, .ref (ad a0)), (1, .int l1), (2, .int l2), (3, .int l3), (4, .int v.1)] → W p l e (rmK 5 124) s m args below meth c H locs 0 0 (MQ below (cI D ay kM NM ad r0 σ0) args s 0 0 (aN NM ad)) (F0 m 27 ls [])) (hr : ∀ x, o = .inr (x) → x = (r0, σ0)) : ∀ (k : Nat) (v : Int32 × hSt), lp (S_X12_findsHole_44 a0 l1 l2 l3 l4) k v = some o → ∀ (H : Heap) (locs : List Loc) (ls : Array Slot), Wd D ay kM NM ad (aN NM ad) s v.2 H locs → lv_has ls 7 [(0, .ref (ad a0)), (1, .int l1), (2, .int l2), (3, .int l3), (4, .int l4), (5, .int v.1)] → W p l e (rmK 5 124) s m args below meth c H locs 0 0 (MQ below (cI D ay kM NM ad r0 σ0) args s 0 0 (aN NM ad)) (F0 m 44 ls []) := by
  intro k
  induction k with
  | zero => intro v hf; cases hf
  | succ k ih =>
    intro v hf H locs ls w hl
    obtain ⟨o1, h1, h2, h3⟩ := lp_some hf
    exact B_X12_findsHole_44b a0 l1 l2 l3 l4 v.1 v.2 G hm ok_a0 h1 (fun v' e => hb0 v' (h3 _ e).symm) (fun v' e => ih v' (h2 v' e)) (fun x e => hr x (h3 _ e).symm) w hl
set_option maxRecDepth 100000 in
set_option maxHeartbeats 4000000 in
theorem B_X12_findsHole_44 {H : Heap} {locs : List Loc} {ls : Array Slot} {r0 : Int32} {σ0 : hSt} {o : (Int32 × hSt) ⊕ (Int32 × hSt)} (a0 : Nat) (l1 : Int32) (l2 : Int32) (l3 : Int32) (l4 : Int32) (l5 : Int32) (σ : hSt) (G : Gx p m c cX12_findsHole 7 s args RX12 D ay NM ad (aN NM ad)) (hm : meth.sig.returnType = (some .boolean) ∧ meth.locks = false) (ok_a0 : okr kM NM 12 a0 = true) (hf : F_X12_findsHole_44 a0 l1 l2 l3 l4 l5 σ = some o) (hb0 : ∀ (v : Int32 × hSt), o = .inl v → ∀ (H : Heap) (locs : List Loc) (ls : Array Slot), Wd D ay kM NM ad (aN NM ad) s v.2 H locs → lv_has ls 7 [(0, .ref (ad a0)), (1, .int l1), (2, .int l2), (3, .int l3), (4, .int v.1)] → W p l e (rmK 5 124) s m args below meth c H locs 0 0 (MQ below (cI D ay kM NM ad r0 σ0) args s 0 0 (aN NM ad)) (F0 m 27 ls [])) (hr : ∀ x, o = .inr (x) → x = (r0, σ0)) (w : Wd D ay kM NM ad (aN NM ad) s σ H locs) (hl : lv_has ls 7 [(0, .ref (ad a0)), (1, .int l1), (2, .int l2), (3, .int l3), (4, .int l4), (5, .int l5)]) : W p l e (rmK 5 124) s m args below meth c H locs 0 0 (MQ below (cI D ay kM NM ad r0 σ0) args s 0 0 (aN NM ad)) (F0 m 44 ls []) := by
  unfold F_X12_findsHole_44 at hf
  exact H_X12_findsHole_44 a0 l1 l2 l3 l4  G hm ok_a0 hb0 hr fuel (l5, σ) hf _ _ _ w hl
set_option maxRecDepth 100000 in
set_option maxHeartbeats 4000000 in
theorem B_X12_findsHole_27b {H : Heap} {locs : List Loc} {ls : Array Slot} {r0 : Int32} {σ0 : hSt} {o : (Int32 × hSt) ⊕ (Int32 × hSt)} (a0 : Nat) (l1 : Int32) (l2 : Int32) (l3 : Int32) (l4 : Int32) (σ : hSt) (G : Gx p m c cX12_findsHole 7 s args RX12 D ay NM ad (aN NM ad)) (hm : meth.sig.returnType = (some .boolean) ∧ meth.locks = false) (ok_a0 : okr kM NM 12 a0 = true) (hf : F_X12_findsHole_27b a0 l1 l2 l3 l4 σ = some o) (hb0 : ∀ (v : Int32 × hSt), o = .inl v → ∀ (H : Heap) (locs : List Loc) (ls : Array Slot), Wd D ay kM NM ad (aN NM ad) s v.2 H locs → lv_has ls 7 [(0, .ref (ad a0)), (1, .int l1), (2, .int l2), (3, .int l3), (4, .int v.1)] → W p l e (rmK 5 124) s m args below meth c H locs 0 0 (MQ below (cI D ay kM NM ad r0 σ0) args s 0 0 (aN NM ad)) (F0 m 27 ls [])) (hr : ∀ x, o = .inr (x) → x = (r0, σ0)) (w : Wd D ay kM NM ad (aN NM ad) s σ H locs) (hl : lv_has ls 7 [(0, .ref (ad a0)), (1, .int l1), (2, .int l2), (3, .int l3), (4, .int l4)]) : W p l e (rmK 5 124) s m args below meth c H locs 0 0 (MQ below (cI D ay kM NM ad r0 σ0) args s 0 0 (aN NM ad)) (F0 m 27 ls []) := by
  have k_a0 := okr_in ok_a0
  unfold F_X12_findsHole_27b at hf
  refine lv_iload G.hx G.hb (dcs_get dec_X12_findsHole_0 18 rfl) (lv_at hl 4 rfl) ?_
  refine lv_aload_n G.hx G.hb (dcs_get dec_X12_findsHole_0 19 rfl) rfl (lv_at hl 0 rfl) ?_
  obtain ⟨z20, e_z20, ok_z20, hf⟩ := cR_some hf
  have k_z20 := okr_in ok_z20
  refine r_getr (k := 24) cls12 fi_12_24.1 fi_12_24.2 q_1032 G w k_a0.1 k_a0.2 e_z20 (dcs_get dec_X12_findsHole_0 20 rfl) ?_
  refine lv_aload_n G.hx G.hb (dcs_get dec_X12_findsHole_0 21 rfl) rfl (lv_at hl 0 rfl) ?_
  refine r_geti (k := 18) cls12 fi_12_18.1 fi_12_18.2 q_1026 G w k_a0.1 k_a0.2 (dcs_get dec_X12_findsHole_0 22 rfl) ?_
  obtain ⟨h21, hf⟩ := cG_some hf
  refine r_iald G w k_z20.1 k_z20.2 h21 (dcs_get dec_X12_findsHole_0 23 rfl) ?_
  refine lv_icmp_ge (tgt := 152) G.hx G.hb (dcs_get dec_X12_findsHole_0 24 rfl) (by decide) (fun hc => ?_) (fun hc => ?_)
  · rw [if_pos hc] at hf
    refine lv_iconst (v := (0 : Int32)) G.hx G.hb (dcs_get dec_X12_findsHole_2 5 rfl) (by decide) ?_
    have e9 := hr _ (Option.some.inj hf).symm
    exact r_zret rfl G w hm (congrArg Prod.fst e9) (congrArg Prod.snd e9) (dcs_get dec_X12_findsHole_2 6 rfl)
  · rw [if_neg hc] at hf
    refine lv_iconst (v := (0 : Int32)) G.hx G.hb (dcs_get dec_X12_findsHole_0 25 rfl) (by decide) ?_
    refine lv_istore (lv' := [(5, .int (0 : Int32)), (0, .ref (ad a0)), (1, .int l1), (2, .int l2), (3, .int l3), (4, .int l4)]) G.hx G.hb (dcs_get dec_X12_findsHole_0 26 rfl) hl (by decide) rfl (fun ls hl => ?_)
    exact B_X12_findsHole_44 a0 l1 l2 l3 l4 (0 : Int32) σ G hm ok_a0 hf hb0 hr w (lv_sub hl [1, 2, 3, 4, 5, 0] rfl)
set_option maxRecDepth 100000 in
set_option maxHeartbeats 4000000 in
theorem H_X12_findsHole_27 {r0 : Int32} {σ0 : hSt} (a0 : Nat) (l1 : Int32) (l2 : Int32) (l3 : Int32) (G : Gx p m c cX12_findsHole 7 s args RX12 D ay NM ad (aN NM ad)) (hm : meth.sig.returnType = (some .boolean) ∧ meth.locks = false) (ok_a0 : okr kM NM 12 a0 = true)  : ∀ (k : Nat) (v : Int32 × hSt), lp (S_X12_findsHole_27 a0 l1 l2 l3) k v = some (r0, σ0) → ∀ (H : Heap) (locs : List Loc) (ls : Array Slot), Wd D ay kM NM ad (aN NM ad) s v.2 H locs → lv_has ls 7 [(0, .ref (ad a0)), (1, .int l1), (2, .int l2), (3, .int l3), (4, .int v.1)] → W p l e (rmK 5 124) s m args below meth c H locs 0 0 (MQ below (cI D ay kM NM ad r0 σ0) args s 0 0 (aN NM ad)) (F0 m 27 ls []) := by
  intro k
  induction k with
  | zero => intro v hf; cases hf
  | succ k ih =>
    intro v hf H locs ls w hl
    obtain ⟨o1, h1, h2, h3⟩ := lp_some hf
    exact B_X12_findsHole_27b a0 l1 l2 l3 v.1 v.2 G hm ok_a0 h1  (fun v' e => ih v' (h2 v' e)) (fun x e => h3 x e) w hl
set_option maxRecDepth 100000 in
set_option maxHeartbeats 4000000 in
theorem B_X12_findsHole_27 {H : Heap} {locs : List Loc} {ls : Array Slot} {r0 : Int32} {σ0 : hSt} (a0 : Nat) (l1 : Int32) (l2 : Int32) (l3 : Int32) (l4 : Int32) (σ : hSt) (G : Gx p m c cX12_findsHole 7 s args RX12 D ay NM ad (aN NM ad)) (hm : meth.sig.returnType = (some .boolean) ∧ meth.locks = false) (ok_a0 : okr kM NM 12 a0 = true) (hf : F_X12_findsHole_27 a0 l1 l2 l3 l4 σ = some (r0, σ0))  (w : Wd D ay kM NM ad (aN NM ad) s σ H locs) (hl : lv_has ls 7 [(0, .ref (ad a0)), (1, .int l1), (2, .int l2), (3, .int l3), (4, .int l4)]) : W p l e (rmK 5 124) s m args below meth c H locs 0 0 (MQ below (cI D ay kM NM ad r0 σ0) args s 0 0 (aN NM ad)) (F0 m 27 ls []) := by
  unfold F_X12_findsHole_27 at hf
  exact H_X12_findsHole_27 a0 l1 l2 l3  G hm ok_a0  fuel (l4, σ) hf _ _ _ w hl
set_option maxRecDepth 100000 in
set_option maxHeartbeats 4000000 in
theorem B_X12_findsHole_0 {H : Heap} {locs : List Loc} {ls : Array Slot} {r0 : Int32} {σ0 : hSt} (a0 : Nat) (l1 : Int32) (l2 : Int32) (l3 : Int32) (σ : hSt) (G : Gx p m c cX12_findsHole 7 s args RX12 D ay NM ad (aN NM ad)) (hm : meth.sig.returnType = (some .boolean) ∧ meth.locks = false) (ok_a0 : okr kM NM 12 a0 = true) (hf : F_X12_findsHole a0 l1 l2 l3 σ = some (r0, σ0))  (w : Wd D ay kM NM ad (aN NM ad) s σ H locs) (hl : lv_has ls 7 [(0, .ref (ad a0)), (1, .int l1), (2, .int l2), (3, .int l3)]) : W p l e (rmK 5 124) s m args below meth c H locs 0 0 (MQ below (cI D ay kM NM ad r0 σ0) args s 0 0 (aN NM ad)) (F0 m 0 ls []) := by
  have k_a0 := okr_in ok_a0
  unfold F_X12_findsHole at hf
  refine lv_aload_n G.hx G.hb (dcs_get dec_X12_findsHole_0 0 rfl) rfl (lv_at hl 0 rfl) ?_
  refine lv_iload_n G.hx G.hb (dcs_get dec_X12_findsHole_0 1 rfl) rfl (lv_at hl 1 rfl) ?_
  refine lv_iload_n G.hx G.hb (dcs_get dec_X12_findsHole_0 2 rfl) rfl (lv_at hl 3 rfl) ?_
  obtain ⟨v23, σ24, h22, hf⟩ := cC_some hf
  refine a_i (k_V (As := [.int l1, .int l3]) (rest := []) cls12 lb_X12_beginsHole lv_X12_beginsHole q_1527 (C_X12_beginsHole G.2.2.1 a0 l1 l3 σ h22 ok_a0) ⟨(Nat.le_of_ble_eq_true rfl), (Nat.le_of_ble_eq_true rfl)⟩ G w k_a0.1 k_a0.2 rfl rfl hl.1 (Nat.le_of_ble_eq_true rfl) (dcs_get dec_X12_findsHole_0 3 rfl) ⟨Nat.le_refl _, Nat.le_refl _⟩) G w (fun H locs w => ?_)
  refine lv_if_ne (tgt := 11) G.hx G.hb (dcs_get dec_X12_findsHole_0 4 rfl) (by decide) (fun hc => ?_) (fun hc => ?_)
  · rw [if_neg hc] at hf
    refine lv_aload_n G.hx G.hb (dcs_get dec_X12_findsHole_0 7 rfl) rfl (lv_at hl 0 rfl) ?_
    refine lv_iload_n G.hx G.hb (dcs_get dec_X12_findsHole_0 8 rfl) rfl (lv_at hl 1 rfl) ?_
    refine lv_iload_n G.hx G.hb (dcs_get dec_X12_findsHole_0 9 rfl) rfl (lv_at hl 2 rfl) ?_
    refine lv_iload_n G.hx G.hb (dcs_get dec_X12_findsHole_0 10 rfl) rfl (lv_at hl 3 rfl) ?_
    refine lv_iconst (v := (2 : Int32)) G.hx G.hb (dcs_get dec_X12_findsHole_0 11 rfl) (by decide) ?_
    obtain ⟨v26, σ27, h25, hf⟩ := cC_some hf
    refine a_i (k_V (As := [.int l1, .int l2, .int l3, .int (2 : Int32)]) (rest := []) cls12 lb_X12_endsBy lv_X12_endsBy q_1531 (C_X12_endsBy G.2.2.1 a0 l1 l2 l3 (2 : Int32) σ24 h25 ok_a0) ⟨(Nat.le_of_ble_eq_true rfl), (Nat.le_of_ble_eq_true rfl)⟩ G w k_a0.1 k_a0.2 rfl rfl hl.1 (Nat.le_of_ble_eq_true rfl) (dcs_get dec_X12_findsHole_0 12 rfl) ⟨Nat.le_refl _, Nat.le_refl _⟩) G w (fun H locs w => ?_)
    refine lv_if_eq (tgt := 24) G.hx G.hb (dcs_get dec_X12_findsHole_0 13 rfl) (by decide) (fun hc => ?_) (fun hc => ?_)
    · rw [if_pos hc] at hf
      refine lv_iconst (v := (0 : Int32)) G.hx G.hb (dcs_get dec_X12_findsHole_0 16 rfl) (by decide) ?_
      refine lv_istore (lv' := [(4, .int (0 : Int32)), (0, .ref (ad a0)), (1, .int l1), (2, .int l2), (3, .int l3)]) G.hx G.hb (dcs_get dec_X12_findsHole_0 17 rfl) hl (by decide) rfl (fun ls hl => ?_)
      exact B_X12_findsHole_27 a0 l1 l2 l3 (0 : Int32) σ27 G hm ok_a0 hf  w (lv_sub hl [1, 2, 3, 4, 0] rfl)
    · rw [if_neg hc] at hf
      refine lv_iconst (v := (1 : Int32)) G.hx G.hb (dcs_get dec_X12_findsHole_0 14 rfl) (by decide) ?_
      have e9 := Option.some.inj hf
      exact r_zret rfl G w hm (congrArg Prod.fst e9) (congrArg Prod.snd e9) (dcs_get dec_X12_findsHole_0 15 rfl)
  · rw [if_pos hc] at hf
    refine lv_iconst (v := (0 : Int32)) G.hx G.hb (dcs_get dec_X12_findsHole_0 5 rfl) (by decide) ?_
    have e9 := Option.some.inj hf
    exact r_zret rfl G w hm (congrArg Prod.fst e9) (congrArg Prod.snd e9) (dcs_get dec_X12_findsHole_0 6 rfl)
end
set_option maxRecDepth 100000 in
set_option maxHeartbeats 4000000 in
theorem C_X12_findsHole {l : Launch} {D : va_G} {ay : Nat → ClassId} {ad : Nat → Nat} (hi : hInj NM ad) (a0 : Nat) (l1 : Int32) (l2 : Int32) (l3 : Int32) (σ : hSt) {r0 : Int32} {σ0 : hSt} (hf : F_X12_findsHole a0 l1 l2 l3 σ = some (r0, σ0)) (ok_a0 : okr kM NM 12 a0 = true) : hM l D ay kM NM ad yX12_findsHole cX12_findsHole 7 ((some .boolean)) (rmK 5 124) [.ref (ad a0), .int l1, .int l2, .int l3] σ (cI D ay kM NM ad r0 σ0) := by
  refine hM_in (by decide) hi (Nat.le_of_ble_eq_true rfl) ?_
  intro p e s m below meth c G hm w ls hl
  exact B_X12_findsHole_0 a0 l1 l2 l3 σ G hm ok_a0 hf w (lv_sub hl [0, 1, 2, 3] rfl)

/-! HillDrumsModel.canHole(III)Z -/
def DL_X12_canHole_0 : List (Nat × Instr × Nat) := [(0, .aload_n 0, 1), (1, .iload_n 1, 1), (2, .invokevirtual 342, 3), (5, .ifCond .eq 42, 3), (8, .aload_n 0, 1), (9, .iload_n 2, 1), (10, .invokevirtual 342, 3), (13, .ifCond .eq 34, 3), (16, .iload_n 1, 1), (17, .iload_n 2, 1), (18, .if_icmp .eq 29, 3), (21, .aload_n 0, 1), (22, .iload_n 3, 1), (23, .invokevirtual 377, 3), (26, .ifCond .eq 21, 3), (29, .aload_n 0, 1), (30, .getfield 125, 3), (33, .iconst 4, 1), (34, .iload_n 1, 1), (35, .imul, 1), (36, .iload_n 3, 1), (37, .iadd, 1), (38, .iaload, 1), (39, .iconst 1, 1), (40, .if_icmp .ne 7, 3), (43, .iconst 1, 1), (44, .goto 4, 3), (47, .iconst 0, 1), (48, .ireturn, 1)]
set_option maxRecDepth 100000 in
theorem dec_X12_canHole_0 : dcs cX12_canHole DL_X12_canHole_0 = true := by decide +kernel
theorem lb_X12_canHole : lkB yX12_canHole cX12_canHole 4 ((some .boolean)) 3 := ⟨q_1522, q_14, ⟨by decide, by decide⟩, by decide +kernel⟩
theorem lv_X12_canHole : lkV yX12_canHole := ⟨q_1521, qs_118⟩
def F_X12_canHole_48 (s0 : Int32) (σ : hSt) : Option (Int32) :=
cG (isB s0) <|
some (s0)
def F_X12_canHole_47  (σ : hSt) : Option (Int32) :=
F_X12_canHole_48 (0 : Int32) σ
def F_X12_canHole (a0 : Nat) (l1 : Int32) (l2 : Int32) (l3 : Int32) (σ : hSt) : Option (Int32) :=
(F_X12_isHill a0 l1 σ).bind fun v3 =>
if v3 = 0 then (
F_X12_canHole_47  σ) else (
(F_X12_isHill a0 l2 σ).bind fun v5 =>
if v5 = 0 then (
F_X12_canHole_47  σ) else (
if l1 = l2 then (
F_X12_canHole_47  σ) else (
(F_X12_isNews a0 l3 σ).bind fun v7 =>
if v7 = 0 then (
F_X12_canHole_47  σ) else (
cR (σ.2.2 a0 53) (okr kM NM 101) fun z8 =>
cG (inb (((4 : Int32) * l1) + l3) (kM z8).2) <|
if (σ.1 z8 (((4 : Int32) * l1) + l3).toNatClampNeg) = (1 : Int32) then (
F_X12_canHole_48 (1 : Int32) σ) else (
F_X12_canHole_47  σ)))))
section
variable {p : Program} {l : Launch} {e : Env} {s : State} {m : MethodId} {args : Array Value} {below : List Frame} {meth : Method} {c : Code} {D : va_G} {ay : Nat → ClassId} {ad : Nat → Nat}
set_option maxRecDepth 100000 in
set_option maxHeartbeats 4000000 in
theorem B_X12_canHole_48 {H : Heap} {locs : List Loc} {ls : Array Slot} {r0 : Int32} (s0 : Int32) (σ : hSt) (G : Gx p m c cX12_canHole 4 s args RX12 D ay NM ad (aN NM ad)) (hm : meth.sig.returnType = (some .boolean) ∧ meth.locks = false)  (hf : F_X12_canHole_48 s0 σ = some r0)  (w : Wd D ay kM NM ad (aN NM ad) s σ H locs) (hl : lv_has ls 4 []) : W p l e (rmK 2 43) s m args below meth c H locs 0 0 (MQ below (cI D ay kM NM ad r0 σ) args s 0 0 (aN NM ad)) (F0 m 48 ls [.int s0]) := by
  unfold F_X12_canHole_48 at hf
  obtain ⟨h1, hf⟩ := cG_some hf
  have e9 := Option.some.inj hf
  exact r_zret (isB_nar h1) G w hm e9 rfl (dcs_get dec_X12_canHole_0 28 rfl)
set_option maxRecDepth 100000 in
set_option maxHeartbeats 4000000 in
theorem B_X12_canHole_47 {H : Heap} {locs : List Loc} {ls : Array Slot} {r0 : Int32}  (σ : hSt) (G : Gx p m c cX12_canHole 4 s args RX12 D ay NM ad (aN NM ad)) (hm : meth.sig.returnType = (some .boolean) ∧ meth.locks = false)  (hf : F_X12_canHole_47  σ = some r0)  (w : Wd D ay kM NM ad (aN NM ad) s σ H locs) (hl : lv_has ls 4 []) : W p l e (rmK 2 43) s m args below meth c H locs 0 0 (MQ below (cI D ay kM NM ad r0 σ) args s 0 0 (aN NM ad)) (F0 m 47 ls []) := by
  unfold F_X12_canHole_47 at hf
  refine lv_iconst (v := (0 : Int32)) G.hx G.hb (dcs_get dec_X12_canHole_0 27 rfl) (by decide) ?_
  exact B_X12_canHole_48 (0 : Int32) σ G hm  hf  w (lv_sub hl [] rfl)
set_option maxRecDepth 100000 in
set_option maxHeartbeats 4000000 in
theorem B_X12_canHole_0 {H : Heap} {locs : List Loc} {ls : Array Slot} {r0 : Int32} (a0 : Nat) (l1 : Int32) (l2 : Int32) (l3 : Int32) (σ : hSt) (G : Gx p m c cX12_canHole 4 s args RX12 D ay NM ad (aN NM ad)) (hm : meth.sig.returnType = (some .boolean) ∧ meth.locks = false) (ok_a0 : okr kM NM 12 a0 = true) (hf : F_X12_canHole a0 l1 l2 l3 σ = some r0)  (w : Wd D ay kM NM ad (aN NM ad) s σ H locs) (hl : lv_has ls 4 [(0, .ref (ad a0)), (1, .int l1), (2, .int l2), (3, .int l3)]) : W p l e (rmK 2 43) s m args below meth c H locs 0 0 (MQ below (cI D ay kM NM ad r0 σ) args s 0 0 (aN NM ad)) (F0 m 0 ls []) := by
  have k_a0 := okr_in ok_a0
  unfold F_X12_canHole at hf
  refine lv_aload_n G.hx G.hb (dcs_get dec_X12_canHole_0 0 rfl) rfl (lv_at hl 0 rfl) ?_
  refine lv_iload_n G.hx G.hb (dcs_get dec_X12_canHole_0 1 rfl) rfl (lv_at hl 1 rfl) ?_
  obtain ⟨v3, h2, hf⟩ := cB_some hf
  refine a_i (k_V (As := [.int l1]) (rest := []) cls12 lb_X12_isHill lv_X12_isHill q_1346 (C_X12_isHill G.2.2.1 a0 l1 σ h2 ok_a0) ⟨(Nat.le_of_ble_eq_true rfl), (Nat.le_of_ble_eq_true rfl)⟩ G w k_a0.1 k_a0.2 rfl rfl hl.1 (Nat.le_of_ble_eq_true rfl) (dcs_get dec_X12_canHole_0 2 rfl) ⟨Nat.le_refl _, Nat.le_refl _⟩) G w (fun H locs w => ?_)
  refine lv_if_eq (tgt := 47) G.hx G.hb (dcs_get dec_X12_canHole_0 3 rfl) (by decide) (fun hc => ?_) (fun hc => ?_)
  · rw [if_pos hc] at hf
    exact B_X12_canHole_47  σ G hm  hf  w (lv_sub hl [] rfl)
  · rw [if_neg hc] at hf
    refine lv_aload_n G.hx G.hb (dcs_get dec_X12_canHole_0 4 rfl) rfl (lv_at hl 0 rfl) ?_
    refine lv_iload_n G.hx G.hb (dcs_get dec_X12_canHole_0 5 rfl) rfl (lv_at hl 2 rfl) ?_
    obtain ⟨v5, h4, hf⟩ := cB_some hf
    refine a_i (k_V (As := [.int l2]) (rest := []) cls12 lb_X12_isHill lv_X12_isHill q_1346 (C_X12_isHill G.2.2.1 a0 l2 σ h4 ok_a0) ⟨(Nat.le_of_ble_eq_true rfl), (Nat.le_of_ble_eq_true rfl)⟩ G w k_a0.1 k_a0.2 rfl rfl hl.1 (Nat.le_of_ble_eq_true rfl) (dcs_get dec_X12_canHole_0 6 rfl) ⟨Nat.le_refl _, Nat.le_refl _⟩) G w (fun H locs w => ?_)
    refine lv_if_eq (tgt := 47) G.hx G.hb (dcs_get dec_X12_canHole_0 7 rfl) (by decide) (fun hc => ?_) (fun hc => ?_)
    · rw [if_pos hc] at hf
      exact B_X12_canHole_47  σ G hm  hf  w (lv_sub hl [] rfl)
    · rw [if_neg hc] at hf
      refine lv_iload_n G.hx G.hb (dcs_get dec_X12_canHole_0 8 rfl) rfl (lv_at hl 1 rfl) ?_
      refine lv_iload_n G.hx G.hb (dcs_get dec_X12_canHole_0 9 rfl) rfl (lv_at hl 2 rfl) ?_
      refine lv_icmp_eq (tgt := 47) G.hx G.hb (dcs_get dec_X12_canHole_0 10 rfl) (by decide) (fun hc => ?_) (fun hc => ?_)
      · rw [if_pos hc] at hf
        exact B_X12_canHole_47  σ G hm  hf  w (lv_sub hl [] rfl)
      · rw [if_neg hc] at hf
        refine lv_aload_n G.hx G.hb (dcs_get dec_X12_canHole_0 11 rfl) rfl (lv_at hl 0 rfl) ?_
        refine lv_iload_n G.hx G.hb (dcs_get dec_X12_canHole_0 12 rfl) rfl (lv_at hl 3 rfl) ?_
        obtain ⟨v7, h6, hf⟩ := cB_some hf
        refine a_i (k_V (As := [.int l3]) (rest := []) cls12 lb_X12_isNews lv_X12_isNews q_1376 (C_X12_isNews G.2.2.1 a0 l3 σ h6 ok_a0) ⟨(Nat.le_of_ble_eq_true rfl), (Nat.le_of_ble_eq_true rfl)⟩ G w k_a0.1 k_a0.2 rfl rfl hl.1 (Nat.le_of_ble_eq_true rfl) (dcs_get dec_X12_canHole_0 13 rfl) ⟨Nat.le_refl _, Nat.le_refl _⟩) G w (fun H locs w => ?_)
        refine lv_if_eq (tgt := 47) G.hx G.hb (dcs_get dec_X12_canHole_0 14 rfl) (by decide) (fun hc => ?_) (fun hc => ?_)
        · rw [if_pos hc] at hf
          exact B_X12_canHole_47  σ G hm  hf  w (lv_sub hl [] rfl)
        · rw [if_neg hc] at hf
          refine lv_aload_n G.hx G.hb (dcs_get dec_X12_canHole_0 15 rfl) rfl (lv_at hl 0 rfl) ?_
          obtain ⟨z8, e_z8, ok_z8, hf⟩ := cR_some hf
          have k_z8 := okr_in ok_z8
          refine r_getr (k := 53) cls12 fi_12_53.1 fi_12_53.2 q_1061 G w k_a0.1 k_a0.2 e_z8 (dcs_get dec_X12_canHole_0 16 rfl) ?_
          refine lv_iconst (v := (4 : Int32)) G.hx G.hb (dcs_get dec_X12_canHole_0 17 rfl) (by decide) ?_
          refine lv_iload_n G.hx G.hb (dcs_get dec_X12_canHole_0 18 rfl) rfl (lv_at hl 1 rfl) ?_
          refine lv_imul G.hx G.hb (dcs_get dec_X12_canHole_0 19 rfl) ?_
          refine lv_iload_n G.hx G.hb (dcs_get dec_X12_canHole_0 20 rfl) rfl (lv_at hl 3 rfl) ?_
          refine lv_iadd G.hx G.hb (dcs_get dec_X12_canHole_0 21 rfl) ?_
          obtain ⟨h9, hf⟩ := cG_some hf
          refine r_iald G w k_z8.1 k_z8.2 h9 (dcs_get dec_X12_canHole_0 22 rfl) ?_
          refine lv_iconst (v := (1 : Int32)) G.hx G.hb (dcs_get dec_X12_canHole_0 23 rfl) (by decide) ?_
          refine lv_icmp_ne (tgt := 47) G.hx G.hb (dcs_get dec_X12_canHole_0 24 rfl) (by decide) (fun hc => ?_) (fun hc => ?_)
          · rw [if_neg hc] at hf
            exact B_X12_canHole_47  σ G hm  hf  w (lv_sub hl [] rfl)
          · rw [if_pos hc] at hf
            refine lv_iconst (v := (1 : Int32)) G.hx G.hb (dcs_get dec_X12_canHole_0 25 rfl) (by decide) ?_
            refine lv_goto (tgt := 48) G.hx G.hb (dcs_get dec_X12_canHole_0 26 rfl) (by decide) ?_
            exact B_X12_canHole_48 (1 : Int32) σ G hm  hf  w (lv_sub hl [] rfl)
end
set_option maxRecDepth 100000 in
set_option maxHeartbeats 4000000 in
theorem C_X12_canHole {l : Launch} {D : va_G} {ay : Nat → ClassId} {ad : Nat → Nat} (hi : hInj NM ad) (a0 : Nat) (l1 : Int32) (l2 : Int32) (l3 : Int32) (σ : hSt) {r0 : Int32} (hf : F_X12_canHole a0 l1 l2 l3 σ = some r0) (ok_a0 : okr kM NM 12 a0 = true) : hM l D ay kM NM ad yX12_canHole cX12_canHole 4 ((some .boolean)) (rmK 2 43) [.ref (ad a0), .int l1, .int l2, .int l3] σ (cI D ay kM NM ad r0 σ) := by
  refine hM_in (by decide) hi (Nat.le_of_ble_eq_true rfl) ?_
  intro p e s m below meth c G hm w ls hl
  exact B_X12_canHole_0 a0 l1 l2 l3 σ G hm ok_a0 hf w (lv_sub hl [0, 1, 2, 3] rfl)

/-! HillDrumsModel.loophole(III)I -/
def DL_X12_loophole_0 : List (Nat × Instr × Nat) := [(0, .aload_n 0, 1), (1, .iload_n 1, 1), (2, .iload_n 2, 1), (3, .iload_n 3, 1), (4, .invokevirtual 430, 3), (7, .ifCond .ne 5, 3), (10, .iconst (-1), 1), (11, .ireturn, 1), (12, .aload_n 0, 1), (13, .iload_n 1, 1), (14, .iload_n 2, 1), (15, .iload_n 3, 1), (16, .invokevirtual 433, 3), (19, .ifCond .eq 10, 3), (22, .aload_n 0, 1), (23, .getfield 420, 3), (26, .goto 5, 3), (29, .bipush (-2), 2), (31, .ireturn, 1)]
set_option maxRecDepth 100000 in
theorem dec_X12_loophole_0 : dcs cX12_loophole DL_X12_loophole_0 = true := by decide +kernel
theorem lb_X12_loophole : lkB yX12_loophole cX12_loophole 4 ((some .int)) 3 := ⟨q_1518, q_14, ⟨by decide, by decide⟩, by decide +kernel⟩
theorem lv_X12_loophole : lkV yX12_loophole := ⟨q_1516, q_1517⟩
def F_X12_loophole_31 (s0 : Int32) (σ : hSt) : Option (Int32 × hSt) :=
some ((s0, σ))
def F_X12_loophole (a0 : Nat) (l1 : Int32) (l2 : Int32) (l3 : Int32) (σ : hSt) : Option (Int32 × hSt) :=
(F_X12_canHole a0 l1 l2 l3 σ).bind fun v2 =>
if v2 = 0 then (
some (((-1 : Int32), σ))) else (
cC (F_X12_findsHole a0 l1 l2 l3 σ) fun v4 σ5 =>
if v4 = 0 then (
F_X12_loophole_31 (-2 : Int32) σ5) else (
F_X12_loophole_31 (σ5.1 a0 62) σ5))
section
variable {p : Program} {l : Launch} {e : Env} {s : State} {m : MethodId} {args : Array Value} {below : List Frame} {meth : Method} {c : Code} {D : va_G} {ay : Nat → ClassId} {ad : Nat → Nat}
set_option maxRecDepth 100000 in
set_option maxHeartbeats 4000000 in
theorem B_X12_loophole_31 {H : Heap} {locs : List Loc} {ls : Array Slot} {r0 : Int32} {σ0 : hSt} (s0 : Int32) (σ : hSt) (G : Gx p m c cX12_loophole 4 s args RX12 D ay NM ad (aN NM ad)) (hm : meth.sig.returnType = (some .int) ∧ meth.locks = false)  (hf : F_X12_loophole_31 s0 σ = some (r0, σ0))  (w : Wd D ay kM NM ad (aN NM ad) s σ H locs) (hl : lv_has ls 4 []) : W p l e (rmK 6 150) s m args below meth c H locs 0 0 (MQ below (cI D ay kM NM ad r0 σ0) args s 0 0 (aN NM ad)) (F0 m 31 ls [.int s0]) := by
  unfold F_X12_loophole_31 at hf
  have e9 := Option.some.inj hf
  exact r_iret G w hm (congrArg Prod.fst e9) (congrArg Prod.snd e9) (dcs_get dec_X12_loophole_0 18 rfl)
set_option maxRecDepth 100000 in
set_option maxHeartbeats 4000000 in
theorem B_X12_loophole_0 {H : Heap} {locs : List Loc} {ls : Array Slot} {r0 : Int32} {σ0 : hSt} (a0 : Nat) (l1 : Int32) (l2 : Int32) (l3 : Int32) (σ : hSt) (G : Gx p m c cX12_loophole 4 s args RX12 D ay NM ad (aN NM ad)) (hm : meth.sig.returnType = (some .int) ∧ meth.locks = false) (ok_a0 : okr kM NM 12 a0 = true) (hf : F_X12_loophole a0 l1 l2 l3 σ = some (r0, σ0))  (w : Wd D ay kM NM ad (aN NM ad) s σ H locs) (hl : lv_has ls 4 [(0, .ref (ad a0)), (1, .int l1), (2, .int l2), (3, .int l3)]) : W p l e (rmK 6 150) s m args below meth c H locs 0 0 (MQ below (cI D ay kM NM ad r0 σ0) args s 0 0 (aN NM ad)) (F0 m 0 ls []) := by
  have k_a0 := okr_in ok_a0
  unfold F_X12_loophole at hf
  refine lv_aload_n G.hx G.hb (dcs_get dec_X12_loophole_0 0 rfl) rfl (lv_at hl 0 rfl) ?_
  refine lv_iload_n G.hx G.hb (dcs_get dec_X12_loophole_0 1 rfl) rfl (lv_at hl 1 rfl) ?_
  refine lv_iload_n G.hx G.hb (dcs_get dec_X12_loophole_0 2 rfl) rfl (lv_at hl 2 rfl) ?_
  refine lv_iload_n G.hx G.hb (dcs_get dec_X12_loophole_0 3 rfl) rfl (lv_at hl 3 rfl) ?_
  obtain ⟨v2, h1, hf⟩ := cB_some hf
  refine a_i (k_V (As := [.int l1, .int l2, .int l3]) (rest := []) cls12 lb_X12_canHole lv_X12_canHole q_1519 (C_X12_canHole G.2.2.1 a0 l1 l2 l3 σ h1 ok_a0) ⟨(Nat.le_of_ble_eq_true rfl), (Nat.le_of_ble_eq_true rfl)⟩ G w k_a0.1 k_a0.2 rfl rfl hl.1 (Nat.le_of_ble_eq_true rfl) (dcs_get dec_X12_loophole_0 4 rfl) ⟨Nat.le_refl _, Nat.le_refl _⟩) G w (fun H locs w => ?_)
  refine lv_if_ne (tgt := 12) G.hx G.hb (dcs_get dec_X12_loophole_0 5 rfl) (by decide) (fun hc => ?_) (fun hc => ?_)
  · rw [if_neg hc] at hf
    refine lv_aload_n G.hx G.hb (dcs_get dec_X12_loophole_0 8 rfl) rfl (lv_at hl 0 rfl) ?_
    refine lv_iload_n G.hx G.hb (dcs_get dec_X12_loophole_0 9 rfl) rfl (lv_at hl 1 rfl) ?_
    refine lv_iload_n G.hx G.hb (dcs_get dec_X12_loophole_0 10 rfl) rfl (lv_at hl 2 rfl) ?_
    refine lv_iload_n G.hx G.hb (dcs_get dec_X12_loophole_0 11 rfl) rfl (lv_at hl 3 rfl) ?_
    obtain ⟨v4, σ5, h3, hf⟩ := cC_some hf
    refine a_i (k_V (As := [.int l1, .int l2, .int l3]) (rest := []) cls12 lb_X12_findsHole lv_X12_findsHole q_1523 (C_X12_findsHole G.2.2.1 a0 l1 l2 l3 σ h3 ok_a0) ⟨(Nat.le_of_ble_eq_true rfl), (Nat.le_of_ble_eq_true rfl)⟩ G w k_a0.1 k_a0.2 rfl rfl hl.1 (Nat.le_of_ble_eq_true rfl) (dcs_get dec_X12_loophole_0 12 rfl) ⟨Nat.le_refl _, Nat.le_refl _⟩) G w (fun H locs w => ?_)
    refine lv_if_eq (tgt := 29) G.hx G.hb (dcs_get dec_X12_loophole_0 13 rfl) (by decide) (fun hc => ?_) (fun hc => ?_)
    · rw [if_pos hc] at hf
      refine lv_bipush (v := (-2 : Int32)) G.hx G.hb (dcs_get dec_X12_loophole_0 17 rfl) (by decide) ?_
      exact B_X12_loophole_31 (-2 : Int32) σ5 G hm  hf  w (lv_sub hl [] rfl)
    · rw [if_neg hc] at hf
      refine lv_aload_n G.hx G.hb (dcs_get dec_X12_loophole_0 14 rfl) rfl (lv_at hl 0 rfl) ?_
      refine r_geti (k := 62) cls12 fi_12_62.1 fi_12_62.2 q_1070 G w k_a0.1 k_a0.2 (dcs_get dec_X12_loophole_0 15 rfl) ?_
      refine lv_goto (tgt := 31) G.hx G.hb (dcs_get dec_X12_loophole_0 16 rfl) (by decide) ?_
      exact B_X12_loophole_31 (σ5.1 a0 62) σ5 G hm  hf  w (lv_sub hl [] rfl)
  · rw [if_pos hc] at hf
    refine lv_iconst (v := (-1 : Int32)) G.hx G.hb (dcs_get dec_X12_loophole_0 6 rfl) (by decide) ?_
    have e9 := Option.some.inj hf
    exact r_iret G w hm (congrArg Prod.fst e9) (congrArg Prod.snd e9) (dcs_get dec_X12_loophole_0 7 rfl)
end
set_option maxRecDepth 100000 in
set_option maxHeartbeats 4000000 in
theorem C_X12_loophole {l : Launch} {D : va_G} {ay : Nat → ClassId} {ad : Nat → Nat} (hi : hInj NM ad) (a0 : Nat) (l1 : Int32) (l2 : Int32) (l3 : Int32) (σ : hSt) {r0 : Int32} {σ0 : hSt} (hf : F_X12_loophole a0 l1 l2 l3 σ = some (r0, σ0)) (ok_a0 : okr kM NM 12 a0 = true) : hM l D ay kM NM ad yX12_loophole cX12_loophole 4 ((some .int)) (rmK 6 150) [.ref (ad a0), .int l1, .int l2, .int l3] σ (cI D ay kM NM ad r0 σ0) := by
  refine hM_in (by decide) hi (Nat.le_of_ble_eq_true rfl) ?_
  intro p e s m below meth c G hm w ls hl
  exact B_X12_loophole_0 a0 l1 l2 l3 σ G hm ok_a0 hf w (lv_sub hl [0, 1, 2, 3] rfl)

/-! HillDrumsModel.loopholeAt(IIII)I -/
def DL_X12_loopholeAt_0 : List (Nat × Instr × Nat) := [(0, .aload_n 0, 1), (1, .iload_n 1, 1), (2, .iload_n 2, 1), (3, .iload_n 3, 1), (4, .invokevirtual 430, 3), (7, .ifCond .eq 8, 3), (10, .iload 4, 2), (12, .ifCond .ge 5, 3), (15, .iconst (-1), 1), (16, .ireturn, 1), (17, .aload_n 0, 1), (18, .iload_n 1, 1), (19, .iload_n 2, 1), (20, .iload_n 3, 1), (21, .invokevirtual 433, 3), (24, .ifCond .ne 6, 3), (27, .bipush (-2), 2), (29, .ireturn, 1), (30, .iload 4, 2), (32, .aload_n 0, 1), (33, .getfield 420, 3), (36, .if_icmp .ge 13, 3), (39, .aload_n 0, 1), (40, .getfield 140, 3), (43, .iload 4, 2), (45, .iaload, 1), (46, .goto 4, 3), (49, .iconst (-1), 1), (50, .ireturn, 1)]
set_option maxRecDepth 100000 in
theorem dec_X12_loopholeAt_0 : dcs cX12_loopholeAt DL_X12_loopholeAt_0 = true := by decide +kernel
theorem lb_X12_loopholeAt : lkB yX12_loopholeAt cX12_loopholeAt 5 ((some .int)) 4 := ⟨q_1538, q_14, ⟨by decide, by decide⟩, by decide +kernel⟩
theorem lv_X12_loopholeAt : lkV yX12_loopholeAt := ⟨q_1536, q_1537⟩
def F_X12_loopholeAt_15  (σ : hSt) : Option (Int32 × hSt) :=
some (((-1 : Int32), σ))
def F_X12_loopholeAt_50 (s0 : Int32) (σ : hSt) : Option (Int32 × hSt) :=
some ((s0, σ))
def F_X12_loopholeAt (a0 : Nat) (l1 : Int32) (l2 : Int32) (l3 : Int32) (l4 : Int32) (σ : hSt) : Option (Int32 × hSt) :=
(F_X12_canHole a0 l1 l2 l3 σ).bind fun v2 =>
if v2 = 0 then (
F_X12_loopholeAt_15  σ) else (
if 0 ≤ l4 then (
cC (F_X12_findsHole a0 l1 l2 l3 σ) fun v4 σ5 =>
if v4 = 0 then (
some (((-2 : Int32), σ5))) else (
if (σ5.1 a0 62) ≤ l4 then (
F_X12_loopholeAt_50 (-1 : Int32) σ5) else (
cR (σ5.2.2 a0 61) (okr kM NM 101) fun z6 =>
cG (inb l4 (kM z6).2) <|
F_X12_loopholeAt_50 (σ5.1 z6 l4.toNatClampNeg) σ5))) else (
F_X12_loopholeAt_15  σ))
section
variable {p : Program} {l : Launch} {e : Env} {s : State} {m : MethodId} {args : Array Value} {below : List Frame} {meth : Method} {c : Code} {D : va_G} {ay : Nat → ClassId} {ad : Nat → Nat}
set_option maxRecDepth 100000 in
set_option maxHeartbeats 4000000 in
theorem B_X12_loopholeAt_15 {H : Heap} {locs : List Loc} {ls : Array Slot} {r0 : Int32} {σ0 : hSt}  (σ : hSt) (G : Gx p m c cX12_loopholeAt 5 s args RX12 D ay NM ad (aN NM ad)) (hm : meth.sig.returnType = (some .int) ∧ meth.locks = false)  (hf : F_X12_loopholeAt_15  σ = some (r0, σ0))  (w : Wd D ay kM NM ad (aN NM ad) s σ H locs) (hl : lv_has ls 5 []) : W p l e (rmK 6 150) s m args below meth c H locs 0 0 (MQ below (cI D ay kM NM ad r0 σ0) args s 0 0 (aN NM ad)) (F0 m 15 ls []) := by
  unfold F_X12_loopholeAt_15 at hf
  refine lv_iconst (v := (-1 : Int32)) G.hx G.hb (dcs_get dec_X12_loopholeAt_0 8 rfl) (by decide) ?_
  have e9 := Option.some.inj hf
  exact r_iret G w hm (congrArg Prod.fst e9) (congrArg Prod.snd e9) (dcs_get dec_X12_loopholeAt_0 9 rfl)
set_option maxRecDepth 100000 in
set_option maxHeartbeats 4000000 in
theorem B_X12_loopholeAt_50 {H : Heap} {locs : List Loc} {ls : Array Slot} {r0 : Int32} {σ0 : hSt} (s0 : Int32) (σ : hSt) (G : Gx p m c cX12_loopholeAt 5 s args RX12 D ay NM ad (aN NM ad)) (hm : meth.sig.returnType = (some .int) ∧ meth.locks = false)  (hf : F_X12_loopholeAt_50 s0 σ = some (r0, σ0))  (w : Wd D ay kM NM ad (aN NM ad) s σ H locs) (hl : lv_has ls 5 []) : W p l e (rmK 6 150) s m args below meth c H locs 0 0 (MQ below (cI D ay kM NM ad r0 σ0) args s 0 0 (aN NM ad)) (F0 m 50 ls [.int s0]) := by
  unfold F_X12_loopholeAt_50 at hf
  have e9 := Option.some.inj hf
  exact r_iret G w hm (congrArg Prod.fst e9) (congrArg Prod.snd e9) (dcs_get dec_X12_loopholeAt_0 28 rfl)
set_option maxRecDepth 100000 in
set_option maxHeartbeats 4000000 in
theorem B_X12_loopholeAt_0 {H : Heap} {locs : List Loc} {ls : Array Slot} {r0 : Int32} {σ0 : hSt} (a0 : Nat) (l1 : Int32) (l2 : Int32) (l3 : Int32) (l4 : Int32) (σ : hSt) (G : Gx p m c cX12_loopholeAt 5 s args RX12 D ay NM ad (aN NM ad)) (hm : meth.sig.returnType = (some .int) ∧ meth.locks = false) (ok_a0 : okr kM NM 12 a0 = true) (hf : F_X12_loopholeAt a0 l1 l2 l3 l4 σ = some (r0, σ0))  (w : Wd D ay kM NM ad (aN NM ad) s σ H locs) (hl : lv_has ls 5 [(0, .ref (ad a0)), (1, .int l1), (2, .int l2), (3, .int l3), (4, .int l4)]) : W p l e (rmK 6 150) s m args below meth c H locs 0 0 (MQ below (cI D ay kM NM ad r0 σ0) args s 0 0 (aN NM ad)) (F0 m 0 ls []) := by
  have k_a0 := okr_in ok_a0
  unfold F_X12_loopholeAt at hf
  refine lv_aload_n G.hx G.hb (dcs_get dec_X12_loopholeAt_0 0 rfl) rfl (lv_at hl 0 rfl) ?_
  refine lv_iload_n G.hx G.hb (dcs_get dec_X12_loopholeAt_0 1 rfl) rfl (lv_at hl 1 rfl) ?_
  refine lv_iload_n G.hx G.hb (dcs_get dec_X12_loopholeAt_0 2 rfl) rfl (lv_at hl 2 rfl) ?_
  refine lv_iload_n G.hx G.hb (dcs_get dec_X12_loopholeAt_0 3 rfl) rfl (lv_at hl 3 rfl) ?_
  obtain ⟨v2, h1, hf⟩ := cB_some hf
  refine a_i (k_V (As := [.int l1, .int l2, .int l3]) (rest := []) cls12 lb_X12_canHole lv_X12_canHole q_1519 (C_X12_canHole G.2.2.1 a0 l1 l2 l3 σ h1 ok_a0) ⟨(Nat.le_of_ble_eq_true rfl), (Nat.le_of_ble_eq_true rfl)⟩ G w k_a0.1 k_a0.2 rfl rfl hl.1 (Nat.le_of_ble_eq_true rfl) (dcs_get dec_X12_loopholeAt_0 4 rfl) ⟨Nat.le_refl _, Nat.le_refl _⟩) G w (fun H locs w => ?_)
  refine lv_if_eq (tgt := 15) G.hx G.hb (dcs_get dec_X12_loopholeAt_0 5 rfl) (by decide) (fun hc => ?_) (fun hc => ?_)
  · rw [if_pos hc] at hf
    exact B_X12_loopholeAt_15  σ G hm  hf  w (lv_sub hl [] rfl)
  · rw [if_neg hc] at hf
    refine lv_iload G.hx G.hb (dcs_get dec_X12_loopholeAt_0 6 rfl) (lv_at hl 4 rfl) ?_
    refine lv_if_ge (tgt := 17) G.hx G.hb (dcs_get dec_X12_loopholeAt_0 7 rfl) (by decide) (fun hc => ?_) (fun hc => ?_)
    · rw [if_pos hc] at hf
      refine lv_aload_n G.hx G.hb (dcs_get dec_X12_loopholeAt_0 10 rfl) rfl (lv_at hl 0 rfl) ?_
      refine lv_iload_n G.hx G.hb (dcs_get dec_X12_loopholeAt_0 11 rfl) rfl (lv_at hl 1 rfl) ?_
      refine lv_iload_n G.hx G.hb (dcs_get dec_X12_loopholeAt_0 12 rfl) rfl (lv_at hl 2 rfl) ?_
      refine lv_iload_n G.hx G.hb (dcs_get dec_X12_loopholeAt_0 13 rfl) rfl (lv_at hl 3 rfl) ?_
      obtain ⟨v4, σ5, h3, hf⟩ := cC_some hf
      refine a_i (k_V (As := [.int l1, .int l2, .int l3]) (rest := []) cls12 lb_X12_findsHole lv_X12_findsHole q_1523 (C_X12_findsHole G.2.2.1 a0 l1 l2 l3 σ h3 ok_a0) ⟨(Nat.le_of_ble_eq_true rfl), (Nat.le_of_ble_eq_true rfl)⟩ G w k_a0.1 k_a0.2 rfl rfl hl.1 (Nat.le_of_ble_eq_true rfl) (dcs_get dec_X12_loopholeAt_0 14 rfl) ⟨Nat.le_refl _, Nat.le_refl _⟩) G w (fun H locs w => ?_)
      refine lv_if_ne (tgt := 30) G.hx G.hb (dcs_get dec_X12_loopholeAt_0 15 rfl) (by decide) (fun hc => ?_) (fun hc => ?_)
      · rw [if_neg hc] at hf
        refine lv_iload G.hx G.hb (dcs_get dec_X12_loopholeAt_0 18 rfl) (lv_at hl 4 rfl) ?_
        refine lv_aload_n G.hx G.hb (dcs_get dec_X12_loopholeAt_0 19 rfl) rfl (lv_at hl 0 rfl) ?_
        refine r_geti (k := 62) cls12 fi_12_62.1 fi_12_62.2 q_1070 G w k_a0.1 k_a0.2 (dcs_get dec_X12_loopholeAt_0 20 rfl) ?_
        refine lv_icmp_ge (tgt := 49) G.hx G.hb (dcs_get dec_X12_loopholeAt_0 21 rfl) (by decide) (fun hc => ?_) (fun hc => ?_)
        · rw [if_pos hc] at hf
          refine lv_iconst (v := (-1 : Int32)) G.hx G.hb (dcs_get dec_X12_loopholeAt_0 27 rfl) (by decide) ?_
          exact B_X12_loopholeAt_50 (-1 : Int32) σ5 G hm  hf  w (lv_sub hl [] rfl)
        · rw [if_neg hc] at hf
          refine lv_aload_n G.hx G.hb (dcs_get dec_X12_loopholeAt_0 22 rfl) rfl (lv_at hl 0 rfl) ?_
          obtain ⟨z6, e_z6, ok_z6, hf⟩ := cR_some hf
          have k_z6 := okr_in ok_z6
          refine r_getr (k := 61) cls12 fi_12_61.1 fi_12_61.2 q_1069 G w k_a0.1 k_a0.2 e_z6 (dcs_get dec_X12_loopholeAt_0 23 rfl) ?_
          refine lv_iload G.hx G.hb (dcs_get dec_X12_loopholeAt_0 24 rfl) (lv_at hl 4 rfl) ?_
          obtain ⟨h7, hf⟩ := cG_some hf
          refine r_iald G w k_z6.1 k_z6.2 h7 (dcs_get dec_X12_loopholeAt_0 25 rfl) ?_
          refine lv_goto (tgt := 50) G.hx G.hb (dcs_get dec_X12_loopholeAt_0 26 rfl) (by decide) ?_
          exact B_X12_loopholeAt_50 (σ5.1 z6 l4.toNatClampNeg) σ5 G hm  hf  w (lv_sub hl [] rfl)
      · rw [if_pos hc] at hf
        refine lv_bipush (v := (-2 : Int32)) G.hx G.hb (dcs_get dec_X12_loopholeAt_0 16 rfl) (by decide) ?_
        have e9 := Option.some.inj hf
        exact r_iret G w hm (congrArg Prod.fst e9) (congrArg Prod.snd e9) (dcs_get dec_X12_loopholeAt_0 17 rfl)
    · rw [if_neg hc] at hf
      exact B_X12_loopholeAt_15  σ G hm  hf  w (lv_sub hl [] rfl)
end
set_option maxRecDepth 100000 in
set_option maxHeartbeats 4000000 in
theorem C_X12_loopholeAt {l : Launch} {D : va_G} {ay : Nat → ClassId} {ad : Nat → Nat} (hi : hInj NM ad) (a0 : Nat) (l1 : Int32) (l2 : Int32) (l3 : Int32) (l4 : Int32) (σ : hSt) {r0 : Int32} {σ0 : hSt} (hf : F_X12_loopholeAt a0 l1 l2 l3 l4 σ = some (r0, σ0)) (ok_a0 : okr kM NM 12 a0 = true) : hM l D ay kM NM ad yX12_loopholeAt cX12_loopholeAt 5 ((some .int)) (rmK 6 150) [.ref (ad a0), .int l1, .int l2, .int l3, .int l4] σ (cI D ay kM NM ad r0 σ0) := by
  refine hM_in (by decide) hi (Nat.le_of_ble_eq_true rfl) ?_
  intro p e s m below meth c G hm w ls hl
  exact B_X12_loopholeAt_0 a0 l1 l2 l3 l4 σ G hm ok_a0 hf w (lv_sub hl [0, 1, 2, 3, 4] rfl)

/-! HillDrumsModel.clashes(I)I -/
def DL_X12_clashes_0 : List (Nat × Instr × Nat) := [(0, .aload_n 0, 1), (1, .iload_n 1, 1), (2, .invokevirtual 377, 3), (5, .ifCond .ne 5, 3), (8, .iconst (-1), 1), (9, .ireturn, 1), (10, .iconst 0, 1), (11, .istore_n 2, 1), (12, .iconst 0, 1), (13, .istore_n 3, 1), (14, .iload_n 3, 1), (15, .aload_n 0, 1), (16, .getfield 49, 3), (19, .aload_n 0, 1), (20, .getfield 236, 3), (23, .iaload, 1), (24, .if_icmp .ge 32, 3), (27, .aload_n 0, 1), (28, .getfield 125, 3), (31, .bipush 96, 2), (33, .iconst 4, 1), (34, .iload_n 3, 1), (35, .imul, 1), (36, .iadd, 1), (37, .iload_n 1, 1), (38, .iadd, 1), (39, .iaload, 1), (40, .iconst 3, 1), (41, .if_icmp .ne 9, 3), (44, .iload_n 2, 1), (45, .iconst 1, 1), (46, .iload_n 3, 1), (47, .ishl, 1), (48, .ior, 1), (49, .istore_n 2, 1), (50, .iinc 3 1, 3), (53, .goto (-39), 3), (56, .iload_n 2, 1), (57, .ireturn, 1)]
set_option maxRecDepth 100000 in
theorem dec_X12_clashes_0 : dcs cX12_clashes DL_X12_clashes_0 = true := by decide +kernel
theorem lb_X12_clashes : lkB yX12_clashes cX12_clashes 4 ((some .int)) 1 := ⟨q_1542, q_14, ⟨by decide, by decide⟩, by decide +kernel⟩
theorem lv_X12_clashes : lkV yX12_clashes := ⟨q_1540, q_1541⟩
def F_X12_clashes_50 (a0 : Nat) (l1 : Int32) (l2 : Int32) (l3 : Int32) (σ : hSt) : Option ((Int32 × Int32) ⊕ (Int32)) :=
cL (l3 + (1 : Int32)) fun v1 =>
some (.inl (l2, v1))
def F_X12_clashes_14b (a0 : Nat) (l1 : Int32) (l2 : Int32) (l3 : Int32) (σ : hSt) : Option ((Int32 × Int32) ⊕ (Int32)) :=
cR (σ.2.2 a0 24) (okr kM NM 101) fun z2 =>
cG (inb (σ.1 a0 18) (kM z2).2) <|
if (σ.1 z2 (σ.1 a0 18).toNatClampNeg) ≤ l3 then (
some (.inr (l2))) else (
cR (σ.2.2 a0 53) (okr kM NM 101) fun z4 =>
cG (inb (((96 : Int32) + ((4 : Int32) * l3)) + l1) (kM z4).2) <|
if (σ.1 z4 (((96 : Int32) + ((4 : Int32) * l3)) + l1).toNatClampNeg) = (3 : Int32) then (
cL (l2 ||| ((1 : Int32) <<< (l3 &&& 31))) fun v6 =>
F_X12_clashes_50 a0 l1 v6 l3 σ) else (
F_X12_clashes_50 a0 l1 l2 l3 σ))
def S_X12_clashes_14 (a0 : Nat) (l1 : Int32) (σ : hSt) (v : Int32 × Int32) : Option ((Int32 × Int32) ⊕ (Int32)) := F_X12_clashes_14b a0 l1 v.1 v.2 σ
def F_X12_clashes_14 (a0 : Nat) (l1 : Int32) (l2 : Int32) (l3 : Int32) (σ : hSt) : Option (Int32) := lp (S_X12_clashes_14 a0 l1 σ) fuel (l2, l3)
def F_X12_clashes (a0 : Nat) (l1 : Int32) (σ : hSt) : Option (Int32) :=
(F_X12_isNews a0 l1 σ).bind fun v8 =>
if v8 = 0 then (
some ((-1 : Int32))) else (
F_X12_clashes_14 a0 l1 (0 : Int32) (0 : Int32) σ)
section
variable {p : Program} {l : Launch} {e : Env} {s : State} {m : MethodId} {args : Array Value} {below : List Frame} {meth : Method} {c : Code} {D : va_G} {ay : Nat → ClassId} {ad : Nat → Nat}
set_option maxRecDepth 100000 in
set_option maxHeartbeats 4000000 in
theorem B_X12_clashes_50 {H : Heap} {locs : List Loc} {ls : Array Slot} {r0 : Int32} {o : (Int32 × Int32) ⊕ (Int32)} (a0 : Nat) (l1 : Int32) (l2 : Int32) (l3 : Int32) (σ : hSt) (G : Gx p m c cX12_clashes 4 s args RX12 D ay NM ad (aN NM ad)) (hm : meth.sig.returnType = (some .int) ∧ meth.locks = false) (ok_a0 : okr kM NM 12 a0 = true) (hf : F_X12_clashes_50 a0 l1 l2 l3 σ = some o) (hb0 : ∀ (v : Int32 × Int32), o = .inl v → ∀ (H : Heap) (locs : List Loc) (ls : Array Slot), Wd D ay kM NM ad (aN NM ad) s σ H locs → lv_has ls 4 [(0, .ref (ad a0)), (1, .int l1), (2, .int v.1), (3, .int v.2)] → W p l e (rmK 2 43) s m args below meth c H locs 0 0 (MQ below (cI D ay kM NM ad r0 σ) args s 0 0 (aN NM ad)) (F0 m 14 ls [])) (hr : ∀ x, o = .inr (x) → x = r0) (w : Wd D ay kM NM ad (aN NM ad) s σ H locs) (hl : lv_has ls 4 [(0, .ref (ad a0)), (1, .int l1), (2, .int l2), (3, .int l3)]) : W p l e (rmK 2 43) s m args below meth c H locs 0 0 (MQ below (cI D ay kM NM ad r0 σ) args s 0 0 (aN NM ad)) (F0 m 50 ls []) := by
  have k_a0 := okr_in ok_a0
  unfold F_X12_clashes_50 at hf
  obtain ⟨v1, e_v1, hf⟩ := cL_some hf
  refine lv_iinc (v := v1) (lv' := [(3, .int v1), (0, .ref (ad a0)), (1, .int l1), (2, .int l2)]) G.hx G.hb (dcs_get dec_X12_clashes_0 35 rfl) hl (k := 3) rfl (by rw [e_v1]; rfl) (by decide) rfl (fun ls hl => ?_)
  refine lv_goto (tgt := 14) G.hx G.hb (dcs_get dec_X12_clashes_0 36 rfl) (by decide) ?_
  exact hb0 _ (Option.some.inj hf).symm _ _ _ w (lv_sub hl [1, 2, 3, 0] rfl)
set_option maxRecDepth 100000 in
set_option maxHeartbeats 4000000 in
theorem B_X12_clashes_14b {H : Heap} {locs : List Loc} {ls : Array Slot} {r0 : Int32} {o : (Int32 × Int32) ⊕ (Int32)} (a0 : Nat) (l1 : Int32) (l2 : Int32) (l3 : Int32) (σ : hSt) (G : Gx p m c cX12_clashes 4 s args RX12 D ay NM ad (aN NM ad)) (hm : meth.sig.returnType = (some .int) ∧ meth.locks = false) (ok_a0 : okr kM NM 12 a0 = true) (hf : F_X12_clashes_14b a0 l1 l2 l3 σ = some o) (hb0 : ∀ (v : Int32 × Int32), o = .inl v → ∀ (H : Heap) (locs : List Loc) (ls : Array Slot), Wd D ay kM NM ad (aN NM ad) s σ H locs → lv_has ls 4 [(0, .ref (ad a0)), (1, .int l1), (2, .int v.1), (3, .int v.2)] → W p l e (rmK 2 43) s m args below meth c H locs 0 0 (MQ below (cI D ay kM NM ad r0 σ) args s 0 0 (aN NM ad)) (F0 m 14 ls [])) (hr : ∀ x, o = .inr (x) → x = r0) (w : Wd D ay kM NM ad (aN NM ad) s σ H locs) (hl : lv_has ls 4 [(0, .ref (ad a0)), (1, .int l1), (2, .int l2), (3, .int l3)]) : W p l e (rmK 2 43) s m args below meth c H locs 0 0 (MQ below (cI D ay kM NM ad r0 σ) args s 0 0 (aN NM ad)) (F0 m 14 ls []) := by
  have k_a0 := okr_in ok_a0
  unfold F_X12_clashes_14b at hf
  refine lv_iload_n G.hx G.hb (dcs_get dec_X12_clashes_0 10 rfl) rfl (lv_at hl 3 rfl) ?_
  refine lv_aload_n G.hx G.hb (dcs_get dec_X12_clashes_0 11 rfl) rfl (lv_at hl 0 rfl) ?_
  obtain ⟨z2, e_z2, ok_z2, hf⟩ := cR_some hf
  have k_z2 := okr_in ok_z2
  refine r_getr (k := 24) cls12 fi_12_24.1 fi_12_24.2 q_1032 G w k_a0.1 k_a0.2 e_z2 (dcs_get dec_X12_clashes_0 12 rfl) ?_
  refine lv_aload_n G.hx G.hb (dcs_get dec_X12_clashes_0 13 rfl) rfl (lv_at hl 0 rfl) ?_
  refine r_geti (k := 18) cls12 fi_12_18.1 fi_12_18.2 q_1026 G w k_a0.1 k_a0.2 (dcs_get dec_X12_clashes_0 14 rfl) ?_
  obtain ⟨h3, hf⟩ := cG_some hf
  refine r_iald G w k_z2.1 k_z2.2 h3 (dcs_get dec_X12_clashes_0 15 rfl) ?_
  refine lv_icmp_ge (tgt := 56) G.hx G.hb (dcs_get dec_X12_clashes_0 16 rfl) (by decide) (fun hc => ?_) (fun hc => ?_)
  · rw [if_pos hc] at hf
    refine lv_iload_n G.hx G.hb (dcs_get dec_X12_clashes_0 37 rfl) rfl (lv_at hl 2 rfl) ?_
    have e9 := hr _ (Option.some.inj hf).symm
    exact r_iret G w hm e9 rfl (dcs_get dec_X12_clashes_0 38 rfl)
  · rw [if_neg hc] at hf
    refine lv_aload_n G.hx G.hb (dcs_get dec_X12_clashes_0 17 rfl) rfl (lv_at hl 0 rfl) ?_
    obtain ⟨z4, e_z4, ok_z4, hf⟩ := cR_some hf
    have k_z4 := okr_in ok_z4
    refine r_getr (k := 53) cls12 fi_12_53.1 fi_12_53.2 q_1061 G w k_a0.1 k_a0.2 e_z4 (dcs_get dec_X12_clashes_0 18 rfl) ?_
    refine lv_bipush (v := (96 : Int32)) G.hx G.hb (dcs_get dec_X12_clashes_0 19 rfl) (by decide) ?_
    refine lv_iconst (v := (4 : Int32)) G.hx G.hb (dcs_get dec_X12_clashes_0 20 rfl) (by decide) ?_
    refine lv_iload_n G.hx G.hb (dcs_get dec_X12_clashes_0 21 rfl) rfl (lv_at hl 3 rfl) ?_
    refine lv_imul G.hx G.hb (dcs_get dec_X12_clashes_0 22 rfl) ?_
    refine lv_iadd G.hx G.hb (dcs_get dec_X12_clashes_0 23 rfl) ?_
    refine lv_iload_n G.hx G.hb (dcs_get dec_X12_clashes_0 24 rfl) rfl (lv_at hl 1 rfl) ?_
    refine lv_iadd G.hx G.hb (dcs_get dec_X12_clashes_0 25 rfl) ?_
    obtain ⟨h5, hf⟩ := cG_some hf
    refine r_iald G w k_z4.1 k_z4.2 h5 (dcs_get dec_X12_clashes_0 26 rfl) ?_
    refine lv_iconst (v := (3 : Int32)) G.hx G.hb (dcs_get dec_X12_clashes_0 27 rfl) (by decide) ?_
    refine lv_icmp_ne (tgt := 50) G.hx G.hb (dcs_get dec_X12_clashes_0 28 rfl) (by decide) (fun hc => ?_) (fun hc => ?_)
    · rw [if_neg hc] at hf
      exact B_X12_clashes_50 a0 l1 l2 l3 σ G hm ok_a0 hf hb0 hr w (lv_sub hl [0, 1, 2, 3] rfl)
    · rw [if_pos hc] at hf
      refine lv_iload_n G.hx G.hb (dcs_get dec_X12_clashes_0 29 rfl) rfl (lv_at hl 2 rfl) ?_
      refine lv_iconst (v := (1 : Int32)) G.hx G.hb (dcs_get dec_X12_clashes_0 30 rfl) (by decide) ?_
      refine lv_iload_n G.hx G.hb (dcs_get dec_X12_clashes_0 31 rfl) rfl (lv_at hl 3 rfl) ?_
      refine lv_ishl G.hx G.hb (dcs_get dec_X12_clashes_0 32 rfl) ?_
      refine lv_ior G.hx G.hb (dcs_get dec_X12_clashes_0 33 rfl) ?_
      obtain ⟨v6, e_v6, hf⟩ := cL_some hf
      refine r_topi e_v6 ?_
      refine lv_istore_n (lv' := [(2, .int v6), (0, .ref (ad a0)), (1, .int l1), (3, .int l3)]) G.hx G.hb (dcs_get dec_X12_clashes_0 34 rfl) rfl hl (by decide) rfl (fun ls hl => ?_)
      exact B_X12_clashes_50 a0 l1 v6 l3 σ G hm ok_a0 hf hb0 hr w (lv_sub hl [1, 2, 0, 3] rfl)
set_option maxRecDepth 100000 in
set_option maxHeartbeats 4000000 in
theorem H_X12_clashes_14 {r0 : Int32} (a0 : Nat) (l1 : Int32) (σ : hSt) (G : Gx p m c cX12_clashes 4 s args RX12 D ay NM ad (aN NM ad)) (hm : meth.sig.returnType = (some .int) ∧ meth.locks = false) (ok_a0 : okr kM NM 12 a0 = true)  : ∀ (k : Nat) (v : Int32 × Int32), lp (S_X12_clashes_14 a0 l1 σ) k v = some r0 → ∀ (H : Heap) (locs : List Loc) (ls : Array Slot), Wd D ay kM NM ad (aN NM ad) s σ H locs → lv_has ls 4 [(0, .ref (ad a0)), (1, .int l1), (2, .int v.1), (3, .int v.2)] → W p l e (rmK 2 43) s m args below meth c H locs 0 0 (MQ below (cI D ay kM NM ad r0 σ) args s 0 0 (aN NM ad)) (F0 m 14 ls []) := by
  intro k
  induction k with
  | zero => intro v hf; cases hf
  | succ k ih =>
    intro v hf H locs ls w hl
    obtain ⟨o1, h1, h2, h3⟩ := lp_some hf
    exact B_X12_clashes_14b a0 l1 v.1 v.2 σ G hm ok_a0 h1  (fun v' e => ih v' (h2 v' e)) (fun x e => h3 x e) w hl
set_option maxRecDepth 100000 in
set_option maxHeartbeats 4000000 in
theorem B_X12_clashes_14 {H : Heap} {locs : List Loc} {ls : Array Slot} {r0 : Int32} (a0 : Nat) (l1 : Int32) (l2 : Int32) (l3 : Int32) (σ : hSt) (G : Gx p m c cX12_clashes 4 s args RX12 D ay NM ad (aN NM ad)) (hm : meth.sig.returnType = (some .int) ∧ meth.locks = false) (ok_a0 : okr kM NM 12 a0 = true) (hf : F_X12_clashes_14 a0 l1 l2 l3 σ = some r0)  (w : Wd D ay kM NM ad (aN NM ad) s σ H locs) (hl : lv_has ls 4 [(0, .ref (ad a0)), (1, .int l1), (2, .int l2), (3, .int l3)]) : W p l e (rmK 2 43) s m args below meth c H locs 0 0 (MQ below (cI D ay kM NM ad r0 σ) args s 0 0 (aN NM ad)) (F0 m 14 ls []) := by
  unfold F_X12_clashes_14 at hf
  exact H_X12_clashes_14 a0 l1 σ G hm ok_a0  fuel (l2, l3) hf _ _ _ w hl
set_option maxRecDepth 100000 in
set_option maxHeartbeats 4000000 in
theorem B_X12_clashes_0 {H : Heap} {locs : List Loc} {ls : Array Slot} {r0 : Int32} (a0 : Nat) (l1 : Int32) (σ : hSt) (G : Gx p m c cX12_clashes 4 s args RX12 D ay NM ad (aN NM ad)) (hm : meth.sig.returnType = (some .int) ∧ meth.locks = false) (ok_a0 : okr kM NM 12 a0 = true) (hf : F_X12_clashes a0 l1 σ = some r0)  (w : Wd D ay kM NM ad (aN NM ad) s σ H locs) (hl : lv_has ls 4 [(0, .ref (ad a0)), (1, .int l1)]) : W p l e (rmK 2 43) s m args below meth c H locs 0 0 (MQ below (cI D ay kM NM ad r0 σ) args s 0 0 (aN NM ad)) (F0 m 0 ls []) := by
  have k_a0 := okr_in ok_a0
  unfold F_X12_clashes at hf
  refine lv_aload_n G.hx G.hb (dcs_get dec_X12_clashes_0 0 rfl) rfl (lv_at hl 0 rfl) ?_
  refine lv_iload_n G.hx G.hb (dcs_get dec_X12_clashes_0 1 rfl) rfl (lv_at hl 1 rfl) ?_
  obtain ⟨v8, h7, hf⟩ := cB_some hf
  refine a_i (k_V (As := [.int l1]) (rest := []) cls12 lb_X12_isNews lv_X12_isNews q_1376 (C_X12_isNews G.2.2.1 a0 l1 σ h7 ok_a0) ⟨(Nat.le_of_ble_eq_true rfl), (Nat.le_of_ble_eq_true rfl)⟩ G w k_a0.1 k_a0.2 rfl rfl hl.1 (Nat.le_of_ble_eq_true rfl) (dcs_get dec_X12_clashes_0 2 rfl) ⟨Nat.le_refl _, Nat.le_refl _⟩) G w (fun H locs w => ?_)
  refine lv_if_ne (tgt := 10) G.hx G.hb (dcs_get dec_X12_clashes_0 3 rfl) (by decide) (fun hc => ?_) (fun hc => ?_)
  · rw [if_neg hc] at hf
    refine lv_iconst (v := (0 : Int32)) G.hx G.hb (dcs_get dec_X12_clashes_0 6 rfl) (by decide) ?_
    refine lv_istore_n (lv' := [(2, .int (0 : Int32)), (0, .ref (ad a0)), (1, .int l1)]) G.hx G.hb (dcs_get dec_X12_clashes_0 7 rfl) rfl hl (by decide) rfl (fun ls hl => ?_)
    refine lv_iconst (v := (0 : Int32)) G.hx G.hb (dcs_get dec_X12_clashes_0 8 rfl) (by decide) ?_
    refine lv_istore_n (lv' := [(3, .int (0 : Int32)), (2, .int (0 : Int32)), (0, .ref (ad a0)), (1, .int l1)]) G.hx G.hb (dcs_get dec_X12_clashes_0 9 rfl) rfl hl (by decide) rfl (fun ls hl => ?_)
    exact B_X12_clashes_14 a0 l1 (0 : Int32) (0 : Int32) σ G hm ok_a0 hf  w (lv_sub hl [2, 3, 1, 0] rfl)
  · rw [if_pos hc] at hf
    refine lv_iconst (v := (-1 : Int32)) G.hx G.hb (dcs_get dec_X12_clashes_0 4 rfl) (by decide) ?_
    have e9 := Option.some.inj hf
    exact r_iret G w hm e9 rfl (dcs_get dec_X12_clashes_0 5 rfl)
end
set_option maxRecDepth 100000 in
set_option maxHeartbeats 4000000 in
theorem C_X12_clashes {l : Launch} {D : va_G} {ay : Nat → ClassId} {ad : Nat → Nat} (hi : hInj NM ad) (a0 : Nat) (l1 : Int32) (σ : hSt) {r0 : Int32} (hf : F_X12_clashes a0 l1 σ = some r0) (ok_a0 : okr kM NM 12 a0 = true) : hM l D ay kM NM ad yX12_clashes cX12_clashes 4 ((some .int)) (rmK 2 43) [.ref (ad a0), .int l1] σ (cI D ay kM NM ad r0 σ) := by
  refine hM_in (by decide) hi (Nat.le_of_ble_eq_true rfl) ?_
  intro p e s m below meth c G hm w ls hl
  exact B_X12_clashes_0 a0 l1 σ G hm ok_a0 hf w (lv_sub hl [0, 1] rfl)

/-! HillDrumsModel.sure(IIII)I -/
def DL_X12_sure_0 : List (Nat × Instr × Nat) := [(0, .iload_n 2, 1), (1, .iconst 1, 1), (2, .bipush 9, 2), (4, .invokestatic 323, 3), (7, .ifCond .eq 33, 3), (10, .iload_n 1, 1), (11, .iconst 0, 1), (12, .iload_n 2, 1), (13, .invokestatic 323, 3), (16, .ifCond .eq 24, 3), (19, .iload 4, 2), (21, .iconst 1, 1), (22, .bipush 9, 2), (24, .invokestatic 323, 3), (27, .ifCond .eq 13, 3), (30, .iload_n 3, 1), (31, .iconst 0, 1), (32, .iload 4, 2), (34, .invokestatic 323, 3), (37, .ifCond .ne 5, 3), (40, .iconst (-1), 1), (41, .ireturn, 1), (42, .lconst 1, 1), (43, .lstore 5, 2), (45, .lconst 1, 1), (46, .lstore 7, 2), (48, .iconst 1, 1), (49, .istore 9, 2), (51, .iload 9, 2), (53, .bipush 19, 2), (55, .if_icmp .ge 44, 3), (58, .lload 5, 2), (60, .iload_n 1, 1), (61, .i2l, 1), (62, .lmul, 1), (63, .lstore 5, 2), (65, .lload 7, 2), (67, .iload_n 2, 1), (68, .i2l, 1), (69, .lmul, 1)]
set_option maxRecDepth 100000 in
theorem dec_X12_sure_0 : dcs cX12_sure DL_X12_sure_0 = true := by decide +kernel
def DL_X12_sure_1 : List (Nat × Instr × Nat) := [(70, .lstore 7, 2), (72, .lload 7, 2), (74, .lload 5, 2), (76, .lsub, 1), (77, .iload 4, 2), (79, .i2l, 1), (80, .lmul, 1), (81, .lload 7, 2), (83, .iload_n 3, 1), (84, .i2l, 1), (85, .lmul, 1), (86, .lcmp, 1), (87, .ifCond .lt 6, 3), (90, .iload 9, 2), (92, .ireturn, 1), (93, .iinc 9 1, 3), (96, .goto (-45), 3), (99, .bipush (-2), 2), (101, .ireturn, 1)]
set_option maxRecDepth 100000 in
theorem dec_X12_sure_1 : dcs cX12_sure DL_X12_sure_1 = true := by decide +kernel
theorem lb_X12_sure : lkB yX12_sure cX12_sure 10 ((some .int)) 4 := ⟨q_1546, q_14, ⟨by decide, by decide⟩, by decide +kernel⟩
theorem lv_X12_sure : lkV yX12_sure := ⟨q_1544, q_1545⟩
def F_X12_sure_40  (σ : hSt) : Option (Int32) :=
some ((-1 : Int32))
def F_X12_sure_51b (l1 : Int32) (l2 : Int32) (l3 : Int32) (l4 : Int32) (l5 : Int64) (l7 : Int64) (l9 : Int32) (σ : hSt) : Option ((Int64 × Int64 × Int32) ⊕ (Int32)) :=
if (19 : Int32) ≤ l9 then (
some (.inr ((-2 : Int32)))) else (
cL (l5 * (l1.toInt64)) fun v1 =>
cL (l7 * (l2.toInt64)) fun v2 =>
if (lg_cmp ((v2 - v1) * (l4.toInt64)) (v2 * (l3.toInt64))) < 0 then (
cL (l9 + (1 : Int32)) fun v3 =>
some (.inl (v1, v2, v3))) else (
some (.inr (l9))))
def S_X12_sure_51 (l1 : Int32) (l2 : Int32) (l3 : Int32) (l4 : Int32) (σ : hSt) (v : Int64 × Int64 × Int32) : Option ((Int64 × Int64 × Int32) ⊕ (Int32)) := F_X12_sure_51b l1 l2 l3 l4 v.1 v.2.1 v.2.2 σ
def F_X12_sure_51 (l1 : Int32) (l2 : Int32) (l3 : Int32) (l4 : Int32) (l5 : Int64) (l7 : Int64) (l9 : Int32) (σ : hSt) : Option (Int32) := lp (S_X12_sure_51 l1 l2 l3 l4 σ) fuel (l5, l7, l9)
def F_X12_sure_e (l1 : Int32) (l2 : Int32) (l3 : Int32) (l4 : Int32) (σ : hSt) : Option (Int32) :=
(F_X12_in l2 (1 : Int32) (9 : Int32) σ).bind fun v5 =>
if v5 = 0 then (
F_X12_sure_40  σ) else (
(F_X12_in l1 (0 : Int32) l2 σ).bind fun v7 =>
if v7 = 0 then (
F_X12_sure_40  σ) else (
(F_X12_in l4 (1 : Int32) (9 : Int32) σ).bind fun v9 =>
if v9 = 0 then (
F_X12_sure_40  σ) else (
(F_X12_in l3 (0 : Int32) l4 σ).bind fun v11 =>
if v11 = 0 then (
F_X12_sure_40  σ) else (
F_X12_sure_51 l1 l2 l3 l4 (1 : Int64) (1 : Int64) (1 : Int32) σ))))
def F_X12_sure (a0 : Nat) (l1 : Int32) (l2 : Int32) (l3 : Int32) (l4 : Int32) (σ : hSt) : Option (Int32) := F_X12_sure_e l1 l2 l3 l4 σ
section
variable {p : Program} {l : Launch} {e : Env} {s : State} {m : MethodId} {args : Array Value} {below : List Frame} {meth : Method} {c : Code} {D : va_G} {ay : Nat → ClassId} {ad : Nat → Nat}
set_option maxRecDepth 100000 in
set_option maxHeartbeats 4000000 in
theorem B_X12_sure_40 {H : Heap} {locs : List Loc} {ls : Array Slot} {r0 : Int32}  (σ : hSt) (G : Gx p m c cX12_sure 10 s args RX12 D ay NM ad (aN NM ad)) (hm : meth.sig.returnType = (some .int) ∧ meth.locks = false)  (hf : F_X12_sure_40  σ = some r0)  (w : Wd D ay kM NM ad (aN NM ad) s σ H locs) (hl : lv_has ls 10 []) : W p l e (rmK 1 22) s m args below meth c H locs 0 0 (MQ below (cI D ay kM NM ad r0 σ) args s 0 0 (aN NM ad)) (F0 m 40 ls []) := by
  unfold F_X12_sure_40 at hf
  refine lv_iconst (v := (-1 : Int32)) G.hx G.hb (dcs_get dec_X12_sure_0 20 rfl) (by decide) ?_
  have e9 := Option.some.inj hf
  exact r_iret G w hm e9 rfl (dcs_get dec_X12_sure_0 21 rfl)
set_option maxRecDepth 100000 in
set_option maxHeartbeats 4000000 in
theorem B_X12_sure_51b {H : Heap} {locs : List Loc} {ls : Array Slot} {r0 : Int32} {o : (Int64 × Int64 × Int32) ⊕ (Int32)} (l1 : Int32) (l2 : Int32) (l3 : Int32) (l4 : Int32) (l5 : Int64) (l7 : Int64) (l9 : Int32) (σ : hSt) (G : Gx p m c cX12_sure 10 s args RX12 D ay NM ad (aN NM ad)) (hm : meth.sig.returnType = (some .int) ∧ meth.locks = false)  (hf : F_X12_sure_51b l1 l2 l3 l4 l5 l7 l9 σ = some o) (hb0 : ∀ (v : Int64 × Int64 × Int32), o = .inl v → ∀ (H : Heap) (locs : List Loc) (ls : Array Slot), Wd D ay kM NM ad (aN NM ad) s σ H locs → lv_has ls 10 [(1, .int l1), (2, .int l2), (3, .int l3), (4, .int l4), (5, .long v.1), (7, .long v.2.1), (9, .int v.2.2)] → W p l e (rmK 1 22) s m args below meth c H locs 0 0 (MQ below (cI D ay kM NM ad r0 σ) args s 0 0 (aN NM ad)) (F0 m 51 ls [])) (hr : ∀ x, o = .inr (x) → x = r0) (w : Wd D ay kM NM ad (aN NM ad) s σ H locs) (hl : lv_has ls 10 [(1, .int l1), (2, .int l2), (3, .int l3), (4, .int l4), (5, .long l5), (7, .long l7), (9, .int l9)]) : W p l e (rmK 1 22) s m args below meth c H locs 0 0 (MQ below (cI D ay kM NM ad r0 σ) args s 0 0 (aN NM ad)) (F0 m 51 ls []) := by
  unfold F_X12_sure_51b at hf
  refine lv_iload G.hx G.hb (dcs_get dec_X12_sure_0 28 rfl) (lv_at hl 6 rfl) ?_
  refine lv_bipush (v := (19 : Int32)) G.hx G.hb (dcs_get dec_X12_sure_0 29 rfl) (by decide) ?_
  refine lv_icmp_ge (tgt := 99) G.hx G.hb (dcs_get dec_X12_sure_0 30 rfl) (by decide) (fun hc => ?_) (fun hc => ?_)
  · rw [if_pos hc] at hf
    refine lv_bipush (v := (-2 : Int32)) G.hx G.hb (dcs_get dec_X12_sure_1 17 rfl) (by decide) ?_
    have e9 := hr _ (Option.some.inj hf).symm
    exact r_iret G w hm e9 rfl (dcs_get dec_X12_sure_1 18 rfl)
  · rw [if_neg hc] at hf
    refine lv_lload G.hx G.hb (dcs_get dec_X12_sure_0 31 rfl) (lv_at hl 4 rfl) ?_
    refine lv_iload_n G.hx G.hb (dcs_get dec_X12_sure_0 32 rfl) rfl (lv_at hl 0 rfl) ?_
    refine lv_i2l G.hx G.hb (dcs_get dec_X12_sure_0 33 rfl) rfl ?_
    refine lv_lmul G.hx G.hb (dcs_get dec_X12_sure_0 34 rfl) ?_
    obtain ⟨v1, e_v1, hf⟩ := cL_some hf
    refine r_topl e_v1 ?_
    refine lv_lstore (lv' := [(5, .long v1), (1, .int l1), (2, .int l2), (3, .int l3), (4, .int l4), (7, .long l7), (9, .int l9)]) G.hx G.hb (dcs_get dec_X12_sure_0 35 rfl) hl (by decide) rfl (fun ls hl => ?_)
    refine lv_lload G.hx G.hb (dcs_get dec_X12_sure_0 36 rfl) (lv_at hl 5 rfl) ?_
    refine lv_iload_n G.hx G.hb (dcs_get dec_X12_sure_0 37 rfl) rfl (lv_at hl 2 rfl) ?_
    refine lv_i2l G.hx G.hb (dcs_get dec_X12_sure_0 38 rfl) rfl ?_
    refine lv_lmul G.hx G.hb (dcs_get dec_X12_sure_0 39 rfl) ?_
    obtain ⟨v2, e_v2, hf⟩ := cL_some hf
    refine r_topl e_v2 ?_
    refine lv_lstore (lv' := [(7, .long v2), (5, .long v1), (1, .int l1), (2, .int l2), (3, .int l3), (4, .int l4), (9, .int l9)]) G.hx G.hb (dcs_get dec_X12_sure_1 0 rfl) hl (by decide) rfl (fun ls hl => ?_)
    refine lv_lload G.hx G.hb (dcs_get dec_X12_sure_1 1 rfl) (lv_at hl 0 rfl) ?_
    refine lv_lload G.hx G.hb (dcs_get dec_X12_sure_1 2 rfl) (lv_at hl 1 rfl) ?_
    refine lv_lsub G.hx G.hb (dcs_get dec_X12_sure_1 3 rfl) ?_
    refine lv_iload G.hx G.hb (dcs_get dec_X12_sure_1 4 rfl) (lv_at hl 5 rfl) ?_
    refine lv_i2l G.hx G.hb (dcs_get dec_X12_sure_1 5 rfl) rfl ?_
    refine lv_lmul G.hx G.hb (dcs_get dec_X12_sure_1 6 rfl) ?_
    refine lv_lload G.hx G.hb (dcs_get dec_X12_sure_1 7 rfl) (lv_at hl 0 rfl) ?_
    refine lv_iload_n G.hx G.hb (dcs_get dec_X12_sure_1 8 rfl) rfl (lv_at hl 4 rfl) ?_
    refine lv_i2l G.hx G.hb (dcs_get dec_X12_sure_1 9 rfl) rfl ?_
    refine lv_lmul G.hx G.hb (dcs_get dec_X12_sure_1 10 rfl) ?_
    refine W.lcmp G.hx G.hb (dcs_get dec_X12_sure_1 11 rfl) ?_
    refine lv_if_lt (tgt := 93) G.hx G.hb (dcs_get dec_X12_sure_1 12 rfl) (by decide) (fun hc => ?_) (fun hc => ?_)
    · rw [if_pos hc] at hf
      obtain ⟨v3, e_v3, hf⟩ := cL_some hf
      refine lv_iinc (v := v3) (lv' := [(9, .int v3), (7, .long v2), (5, .long v1), (1, .int l1), (2, .int l2), (3, .int l3), (4, .int l4)]) G.hx G.hb (dcs_get dec_X12_sure_1 15 rfl) hl (k := 6) rfl (by rw [e_v3]; rfl) (by decide) rfl (fun ls hl => ?_)
      refine lv_goto (tgt := 51) G.hx G.hb (dcs_get dec_X12_sure_1 16 rfl) (by decide) ?_
      exact hb0 _ (Option.some.inj hf).symm _ _ _ w (lv_sub hl [3, 4, 5, 6, 2, 1, 0] rfl)
    · rw [if_neg hc] at hf
      refine lv_iload G.hx G.hb (dcs_get dec_X12_sure_1 13 rfl) (lv_at hl 6 rfl) ?_
      have e9 := hr _ (Option.some.inj hf).symm
      exact r_iret G w hm e9 rfl (dcs_get dec_X12_sure_1 14 rfl)
set_option maxRecDepth 100000 in
set_option maxHeartbeats 4000000 in
theorem H_X12_sure_51 {r0 : Int32} (l1 : Int32) (l2 : Int32) (l3 : Int32) (l4 : Int32) (σ : hSt) (G : Gx p m c cX12_sure 10 s args RX12 D ay NM ad (aN NM ad)) (hm : meth.sig.returnType = (some .int) ∧ meth.locks = false)   : ∀ (k : Nat) (v : Int64 × Int64 × Int32), lp (S_X12_sure_51 l1 l2 l3 l4 σ) k v = some r0 → ∀ (H : Heap) (locs : List Loc) (ls : Array Slot), Wd D ay kM NM ad (aN NM ad) s σ H locs → lv_has ls 10 [(1, .int l1), (2, .int l2), (3, .int l3), (4, .int l4), (5, .long v.1), (7, .long v.2.1), (9, .int v.2.2)] → W p l e (rmK 1 22) s m args below meth c H locs 0 0 (MQ below (cI D ay kM NM ad r0 σ) args s 0 0 (aN NM ad)) (F0 m 51 ls []) := by
  intro k
  induction k with
  | zero => intro v hf; cases hf
  | succ k ih =>
    intro v hf H locs ls w hl
    obtain ⟨o1, h1, h2, h3⟩ := lp_some hf
    exact B_X12_sure_51b l1 l2 l3 l4 v.1 v.2.1 v.2.2 σ G hm  h1  (fun v' e => ih v' (h2 v' e)) (fun x e => h3 x e) w hl
set_option maxRecDepth 100000 in
set_option maxHeartbeats 4000000 in
theorem B_X12_sure_51 {H : Heap} {locs : List Loc} {ls : Array Slot} {r0 : Int32} (l1 : Int32) (l2 : Int32) (l3 : Int32) (l4 : Int32) (l5 : Int64) (l7 : Int64) (l9 : Int32) (σ : hSt) (G : Gx p m c cX12_sure 10 s args RX12 D ay NM ad (aN NM ad)) (hm : meth.sig.returnType = (some .int) ∧ meth.locks = false)  (hf : F_X12_sure_51 l1 l2 l3 l4 l5 l7 l9 σ = some r0)  (w : Wd D ay kM NM ad (aN NM ad) s σ H locs) (hl : lv_has ls 10 [(1, .int l1), (2, .int l2), (3, .int l3), (4, .int l4), (5, .long l5), (7, .long l7), (9, .int l9)]) : W p l e (rmK 1 22) s m args below meth c H locs 0 0 (MQ below (cI D ay kM NM ad r0 σ) args s 0 0 (aN NM ad)) (F0 m 51 ls []) := by
  unfold F_X12_sure_51 at hf
  exact H_X12_sure_51 l1 l2 l3 l4 σ G hm   fuel (l5, l7, l9) hf _ _ _ w hl
set_option maxRecDepth 100000 in
set_option maxHeartbeats 4000000 in
theorem B_X12_sure_0 {H : Heap} {locs : List Loc} {ls : Array Slot} {r0 : Int32} (l1 : Int32) (l2 : Int32) (l3 : Int32) (l4 : Int32) (σ : hSt) (G : Gx p m c cX12_sure 10 s args RX12 D ay NM ad (aN NM ad)) (hm : meth.sig.returnType = (some .int) ∧ meth.locks = false)  (hf : F_X12_sure_e l1 l2 l3 l4 σ = some r0)  (w : Wd D ay kM NM ad (aN NM ad) s σ H locs) (hl : lv_has ls 10 [(1, .int l1), (2, .int l2), (3, .int l3), (4, .int l4)]) : W p l e (rmK 1 22) s m args below meth c H locs 0 0 (MQ below (cI D ay kM NM ad r0 σ) args s 0 0 (aN NM ad)) (F0 m 0 ls []) := by
  unfold F_X12_sure_e at hf
  refine lv_iload_n G.hx G.hb (dcs_get dec_X12_sure_0 0 rfl) rfl (lv_at hl 1 rfl) ?_
  refine lv_iconst (v := (1 : Int32)) G.hx G.hb (dcs_get dec_X12_sure_0 1 rfl) (by decide) ?_
  refine lv_bipush (v := (9 : Int32)) G.hx G.hb (dcs_get dec_X12_sure_0 2 rfl) (by decide) ?_
  obtain ⟨v5, h4, hf⟩ := cB_some hf
  refine a_i (k_S (As := [.int l2, .int (1 : Int32), .int (9 : Int32)]) (rest := []) lb_X12_in q_1351 q_1350 (C_X12_in G.2.2.1 l2 (1 : Int32) (9 : Int32) σ h4 ) ⟨(Nat.le_of_ble_eq_true rfl), (Nat.le_of_ble_eq_true rfl)⟩ G w rfl rfl hl.1 (Nat.le_of_ble_eq_true rfl) (dcs_get dec_X12_sure_0 3 rfl) ⟨Nat.le_refl _, Nat.le_refl _⟩) G w (fun H locs w => ?_)
  refine lv_if_eq (tgt := 40) G.hx G.hb (dcs_get dec_X12_sure_0 4 rfl) (by decide) (fun hc => ?_) (fun hc => ?_)
  · rw [if_pos hc] at hf
    exact B_X12_sure_40  σ G hm  hf  w (lv_sub hl [] rfl)
  · rw [if_neg hc] at hf
    refine lv_iload_n G.hx G.hb (dcs_get dec_X12_sure_0 5 rfl) rfl (lv_at hl 0 rfl) ?_
    refine lv_iconst (v := (0 : Int32)) G.hx G.hb (dcs_get dec_X12_sure_0 6 rfl) (by decide) ?_
    refine lv_iload_n G.hx G.hb (dcs_get dec_X12_sure_0 7 rfl) rfl (lv_at hl 1 rfl) ?_
    obtain ⟨v7, h6, hf⟩ := cB_some hf
    refine a_i (k_S (As := [.int l1, .int (0 : Int32), .int l2]) (rest := []) lb_X12_in q_1351 q_1350 (C_X12_in G.2.2.1 l1 (0 : Int32) l2 σ h6 ) ⟨(Nat.le_of_ble_eq_true rfl), (Nat.le_of_ble_eq_true rfl)⟩ G w rfl rfl hl.1 (Nat.le_of_ble_eq_true rfl) (dcs_get dec_X12_sure_0 8 rfl) ⟨Nat.le_refl _, Nat.le_refl _⟩) G w (fun H locs w => ?_)
    refine lv_if_eq (tgt := 40) G.hx G.hb (dcs_get dec_X12_sure_0 9 rfl) (by decide) (fun hc => ?_) (fun hc => ?_)
    · rw [if_pos hc] at hf
      exact B_X12_sure_40  σ G hm  hf  w (lv_sub hl [] rfl)
    · rw [if_neg hc] at hf
      refine lv_iload G.hx G.hb (dcs_get dec_X12_sure_0 10 rfl) (lv_at hl 3 rfl) ?_
      refine lv_iconst (v := (1 : Int32)) G.hx G.hb (dcs_get dec_X12_sure_0 11 rfl) (by decide) ?_
      refine lv_bipush (v := (9 : Int32)) G.hx G.hb (dcs_get dec_X12_sure_0 12 rfl) (by decide) ?_
      obtain ⟨v9, h8, hf⟩ := cB_some hf
      refine a_i (k_S (As := [.int l4, .int (1 : Int32), .int (9 : Int32)]) (rest := []) lb_X12_in q_1351 q_1350 (C_X12_in G.2.2.1 l4 (1 : Int32) (9 : Int32) σ h8 ) ⟨(Nat.le_of_ble_eq_true rfl), (Nat.le_of_ble_eq_true rfl)⟩ G w rfl rfl hl.1 (Nat.le_of_ble_eq_true rfl) (dcs_get dec_X12_sure_0 13 rfl) ⟨Nat.le_refl _, Nat.le_refl _⟩) G w (fun H locs w => ?_)
      refine lv_if_eq (tgt := 40) G.hx G.hb (dcs_get dec_X12_sure_0 14 rfl) (by decide) (fun hc => ?_) (fun hc => ?_)
      · rw [if_pos hc] at hf
        exact B_X12_sure_40  σ G hm  hf  w (lv_sub hl [] rfl)
      · rw [if_neg hc] at hf
        refine lv_iload_n G.hx G.hb (dcs_get dec_X12_sure_0 15 rfl) rfl (lv_at hl 2 rfl) ?_
        refine lv_iconst (v := (0 : Int32)) G.hx G.hb (dcs_get dec_X12_sure_0 16 rfl) (by decide) ?_
        refine lv_iload G.hx G.hb (dcs_get dec_X12_sure_0 17 rfl) (lv_at hl 3 rfl) ?_
        obtain ⟨v11, h10, hf⟩ := cB_some hf
        refine a_i (k_S (As := [.int l3, .int (0 : Int32), .int l4]) (rest := []) lb_X12_in q_1351 q_1350 (C_X12_in G.2.2.1 l3 (0 : Int32) l4 σ h10 ) ⟨(Nat.le_of_ble_eq_true rfl), (Nat.le_of_ble_eq_true rfl)⟩ G w rfl rfl hl.1 (Nat.le_of_ble_eq_true rfl) (dcs_get dec_X12_sure_0 18 rfl) ⟨Nat.le_refl _, Nat.le_refl _⟩) G w (fun H locs w => ?_)
        refine lv_if_ne (tgt := 42) G.hx G.hb (dcs_get dec_X12_sure_0 19 rfl) (by decide) (fun hc => ?_) (fun hc => ?_)
        · rw [if_neg hc] at hf
          refine lv_lconst (v := (1 : Int64)) G.hx G.hb (dcs_get dec_X12_sure_0 22 rfl) (by decide) ?_
          refine lv_lstore (lv' := [(5, .long (1 : Int64)), (1, .int l1), (2, .int l2), (3, .int l3), (4, .int l4)]) G.hx G.hb (dcs_get dec_X12_sure_0 23 rfl) hl (by decide) rfl (fun ls hl => ?_)
          refine lv_lconst (v := (1 : Int64)) G.hx G.hb (dcs_get dec_X12_sure_0 24 rfl) (by decide) ?_
          refine lv_lstore (lv' := [(7, .long (1 : Int64)), (5, .long (1 : Int64)), (1, .int l1), (2, .int l2), (3, .int l3), (4, .int l4)]) G.hx G.hb (dcs_get dec_X12_sure_0 25 rfl) hl (by decide) rfl (fun ls hl => ?_)
          refine lv_iconst (v := (1 : Int32)) G.hx G.hb (dcs_get dec_X12_sure_0 26 rfl) (by decide) ?_
          refine lv_istore (lv' := [(9, .int (1 : Int32)), (7, .long (1 : Int64)), (5, .long (1 : Int64)), (1, .int l1), (2, .int l2), (3, .int l3), (4, .int l4)]) G.hx G.hb (dcs_get dec_X12_sure_0 27 rfl) hl (by decide) rfl (fun ls hl => ?_)
          exact B_X12_sure_51 l1 l2 l3 l4 (1 : Int64) (1 : Int64) (1 : Int32) σ G hm  hf  w (lv_sub hl [3, 4, 5, 6, 2, 1, 0] rfl)
        · rw [if_pos hc] at hf
          exact B_X12_sure_40  σ G hm  hf  w (lv_sub hl [] rfl)
end
set_option maxRecDepth 100000 in
set_option maxHeartbeats 4000000 in
theorem C_X12_sure {l : Launch} {D : va_G} {ay : Nat → ClassId} {ad : Nat → Nat} (hi : hInj NM ad) (a0 : Nat) (l1 : Int32) (l2 : Int32) (l3 : Int32) (l4 : Int32) (σ : hSt) {r0 : Int32} (hf : F_X12_sure a0 l1 l2 l3 l4 σ = some r0) (ok_a0 : okr kM NM 12 a0 = true) : hM l D ay kM NM ad yX12_sure cX12_sure 10 ((some .int)) (rmK 1 22) [.ref (ad a0), .int l1, .int l2, .int l3, .int l4] σ (cI D ay kM NM ad r0 σ) := by
  unfold F_X12_sure at hf
  refine hM_in (by decide) hi (Nat.le_of_ble_eq_true rfl) ?_
  intro p e s m below meth c G hm w ls hl
  exact B_X12_sure_0 l1 l2 l3 l4 σ G hm  hf w (lv_sub hl [1, 2, 3, 4] rfl)

/-! HillDrumsModel.tell(III)I -/
def DL_X12_tell__0 : List (Nat × Instr × Nat) := [(0, .aload_n 0, 1), (1, .getfield 257, 3), (4, .bipush 20, 2), (6, .if_icmp .eq 29, 3), (9, .aload_n 0, 1), (10, .iload_n 1, 1), (11, .invokevirtual 342, 3), (14, .ifCond .eq 21, 3), (17, .aload_n 0, 1), (18, .iload_n 2, 1), (19, .invokevirtual 377, 3), (22, .ifCond .eq 13, 3), (25, .iload_n 3, 1), (26, .iconst 0, 1), (27, .bipush 99, 2), (29, .invokestatic 323, 3), (32, .ifCond .ne 5, 3), (35, .iconst (-1), 1), (36, .ireturn, 1), (37, .aload_n 0, 1), (38, .getfield 143, 3), (41, .aload_n 0, 1), (42, .getfield 257, 3), (45, .iload_n 1, 1), (46, .iastore, 1), (47, .aload_n 0, 1), (48, .getfield 146, 3), (51, .aload_n 0, 1), (52, .getfield 257, 3), (55, .iload_n 2, 1), (56, .iastore, 1), (57, .aload_n 0, 1), (58, .getfield 149, 3), (61, .aload_n 0, 1), (62, .getfield 257, 3), (65, .iload_n 3, 1), (66, .iastore, 1), (67, .aload_n 0, 1), (68, .dup, 1), (69, .getfield 257, 3)]
set_option maxRecDepth 100000 in
theorem dec_X12_tell__0 : dcs cX12_tell_ DL_X12_tell__0 = true := by decide +kernel
def DL_X12_tell__1 : List (Nat × Instr × Nat) := [(72, .iconst 1, 1), (73, .iadd, 1), (74, .putfield 257, 3), (77, .aload_n 0, 1), (78, .getfield 257, 3), (81, .iconst 1, 1), (82, .isub, 1), (83, .ireturn, 1)]
set_option maxRecDepth 100000 in
theorem dec_X12_tell__1 : dcs cX12_tell_ DL_X12_tell__1 = true := by decide +kernel
theorem lb_X12_tell_ : lkB yX12_tell_ cX12_tell_ 4 ((some .int)) 3 := ⟨q_1550, q_14, ⟨by decide, by decide⟩, by decide +kernel⟩
theorem lv_X12_tell_ : lkV yX12_tell_ := ⟨q_1548, q_1549⟩
def F_X12_tell__35  (σ : hSt) : Option (Int32 × hSt) :=
some (((-1 : Int32), σ))
def F_X12_tell_ (a0 : Nat) (l1 : Int32) (l2 : Int32) (l3 : Int32) (σ : hSt) : Option (Int32 × hSt) :=
if (σ.1 a0 63) = (20 : Int32) then (
F_X12_tell__35  σ) else (
(F_X12_isHill a0 l1 σ).bind fun v2 =>
if v2 = 0 then (
F_X12_tell__35  σ) else (
(F_X12_isNews a0 l2 σ).bind fun v4 =>
if v4 = 0 then (
F_X12_tell__35  σ) else (
(F_X12_in l3 (0 : Int32) (99 : Int32) σ).bind fun v6 =>
if v6 = 0 then (
F_X12_tell__35  σ) else (
cR (σ.2.2 a0 64) (okr kM NM 101) fun z7 =>
cG (inb (σ.1 a0 63) (kM z7).2) <|
cL (uI σ z7 (σ.1 a0 63).toNatClampNeg l1) fun σ9 =>
cR (σ9.2.2 a0 65) (okr kM NM 101) fun z10 =>
cG (inb (σ9.1 a0 63) (kM z10).2) <|
cL (uI σ9 z10 (σ9.1 a0 63).toNatClampNeg l2) fun σ12 =>
cR (σ12.2.2 a0 66) (okr kM NM 101) fun z13 =>
cG (inb (σ12.1 a0 63) (kM z13).2) <|
cL (uI σ12 z13 (σ12.1 a0 63).toNatClampNeg l3) fun σ15 =>
cL (uI σ15 a0 63 ((σ15.1 a0 63) + (1 : Int32))) fun σ16 =>
some (((σ16.1 a0 63) - (1 : Int32), σ16))))))
section
variable {p : Program} {l : Launch} {e : Env} {s : State} {m : MethodId} {args : Array Value} {below : List Frame} {meth : Method} {c : Code} {D : va_G} {ay : Nat → ClassId} {ad : Nat → Nat}
set_option maxRecDepth 100000 in
set_option maxHeartbeats 4000000 in
theorem B_X12_tell__35 {H : Heap} {locs : List Loc} {ls : Array Slot} {r0 : Int32} {σ0 : hSt}  (σ : hSt) (G : Gx p m c cX12_tell_ 4 s args RX12 D ay NM ad (aN NM ad)) (hm : meth.sig.returnType = (some .int) ∧ meth.locks = false)  (hf : F_X12_tell__35  σ = some (r0, σ0))  (w : Wd D ay kM NM ad (aN NM ad) s σ H locs) (hl : lv_has ls 4 []) : W p l e (rmK 2 43) s m args below meth c H locs 0 0 (MQ below (cI D ay kM NM ad r0 σ0) args s 0 0 (aN NM ad)) (F0 m 35 ls []) := by
  unfold F_X12_tell__35 at hf
  refine lv_iconst (v := (-1 : Int32)) G.hx G.hb (dcs_get dec_X12_tell__0 17 rfl) (by decide) ?_
  have e9 := Option.some.inj hf
  exact r_iret G w hm (congrArg Prod.fst e9) (congrArg Prod.snd e9) (dcs_get dec_X12_tell__0 18 rfl)
set_option maxRecDepth 100000 in
set_option maxHeartbeats 4000000 in
theorem B_X12_tell__0 {H : Heap} {locs : List Loc} {ls : Array Slot} {r0 : Int32} {σ0 : hSt} (a0 : Nat) (l1 : Int32) (l2 : Int32) (l3 : Int32) (σ : hSt) (G : Gx p m c cX12_tell_ 4 s args RX12 D ay NM ad (aN NM ad)) (hm : meth.sig.returnType = (some .int) ∧ meth.locks = false) (ok_a0 : okr kM NM 12 a0 = true) (hf : F_X12_tell_ a0 l1 l2 l3 σ = some (r0, σ0))  (w : Wd D ay kM NM ad (aN NM ad) s σ H locs) (hl : lv_has ls 4 [(0, .ref (ad a0)), (1, .int l1), (2, .int l2), (3, .int l3)]) : W p l e (rmK 2 43) s m args below meth c H locs 0 0 (MQ below (cI D ay kM NM ad r0 σ0) args s 0 0 (aN NM ad)) (F0 m 0 ls []) := by
  have k_a0 := okr_in ok_a0
  unfold F_X12_tell_ at hf
  refine lv_aload_n G.hx G.hb (dcs_get dec_X12_tell__0 0 rfl) rfl (lv_at hl 0 rfl) ?_
  refine r_geti (k := 63) cls12 fi_12_63.1 fi_12_63.2 q_1071 G w k_a0.1 k_a0.2 (dcs_get dec_X12_tell__0 1 rfl) ?_
  refine lv_bipush (v := (20 : Int32)) G.hx G.hb (dcs_get dec_X12_tell__0 2 rfl) (by decide) ?_
  refine lv_icmp_eq (tgt := 35) G.hx G.hb (dcs_get dec_X12_tell__0 3 rfl) (by decide) (fun hc => ?_) (fun hc => ?_)
  · rw [if_pos hc] at hf
    exact B_X12_tell__35  σ G hm  hf  w (lv_sub hl [] rfl)
  · rw [if_neg hc] at hf
    refine lv_aload_n G.hx G.hb (dcs_get dec_X12_tell__0 4 rfl) rfl (lv_at hl 0 rfl) ?_
    refine lv_iload_n G.hx G.hb (dcs_get dec_X12_tell__0 5 rfl) rfl (lv_at hl 1 rfl) ?_
    obtain ⟨v2, h1, hf⟩ := cB_some hf
    refine a_i (k_V (As := [.int l1]) (rest := []) cls12 lb_X12_isHill lv_X12_isHill q_1346 (C_X12_isHill G.2.2.1 a0 l1 σ h1 ok_a0) ⟨(Nat.le_of_ble_eq_true rfl), (Nat.le_of_ble_eq_true rfl)⟩ G w k_a0.1 k_a0.2 rfl rfl hl.1 (Nat.le_of_ble_eq_true rfl) (dcs_get dec_X12_tell__0 6 rfl) ⟨Nat.le_refl _, Nat.le_refl _⟩) G w (fun H locs w => ?_)
    refine lv_if_eq (tgt := 35) G.hx G.hb (dcs_get dec_X12_tell__0 7 rfl) (by decide) (fun hc => ?_) (fun hc => ?_)
    · rw [if_pos hc] at hf
      exact B_X12_tell__35  σ G hm  hf  w (lv_sub hl [] rfl)
    · rw [if_neg hc] at hf
      refine lv_aload_n G.hx G.hb (dcs_get dec_X12_tell__0 8 rfl) rfl (lv_at hl 0 rfl) ?_
      refine lv_iload_n G.hx G.hb (dcs_get dec_X12_tell__0 9 rfl) rfl (lv_at hl 2 rfl) ?_
      obtain ⟨v4, h3, hf⟩ := cB_some hf
      refine a_i (k_V (As := [.int l2]) (rest := []) cls12 lb_X12_isNews lv_X12_isNews q_1376 (C_X12_isNews G.2.2.1 a0 l2 σ h3 ok_a0) ⟨(Nat.le_of_ble_eq_true rfl), (Nat.le_of_ble_eq_true rfl)⟩ G w k_a0.1 k_a0.2 rfl rfl hl.1 (Nat.le_of_ble_eq_true rfl) (dcs_get dec_X12_tell__0 10 rfl) ⟨Nat.le_refl _, Nat.le_refl _⟩) G w (fun H locs w => ?_)
      refine lv_if_eq (tgt := 35) G.hx G.hb (dcs_get dec_X12_tell__0 11 rfl) (by decide) (fun hc => ?_) (fun hc => ?_)
      · rw [if_pos hc] at hf
        exact B_X12_tell__35  σ G hm  hf  w (lv_sub hl [] rfl)
      · rw [if_neg hc] at hf
        refine lv_iload_n G.hx G.hb (dcs_get dec_X12_tell__0 12 rfl) rfl (lv_at hl 3 rfl) ?_
        refine lv_iconst (v := (0 : Int32)) G.hx G.hb (dcs_get dec_X12_tell__0 13 rfl) (by decide) ?_
        refine lv_bipush (v := (99 : Int32)) G.hx G.hb (dcs_get dec_X12_tell__0 14 rfl) (by decide) ?_
        obtain ⟨v6, h5, hf⟩ := cB_some hf
        refine a_i (k_S (As := [.int l3, .int (0 : Int32), .int (99 : Int32)]) (rest := []) lb_X12_in q_1351 q_1350 (C_X12_in G.2.2.1 l3 (0 : Int32) (99 : Int32) σ h5 ) ⟨(Nat.le_of_ble_eq_true rfl), (Nat.le_of_ble_eq_true rfl)⟩ G w rfl rfl hl.1 (Nat.le_of_ble_eq_true rfl) (dcs_get dec_X12_tell__0 15 rfl) ⟨Nat.le_refl _, Nat.le_refl _⟩) G w (fun H locs w => ?_)
        refine lv_if_ne (tgt := 37) G.hx G.hb (dcs_get dec_X12_tell__0 16 rfl) (by decide) (fun hc => ?_) (fun hc => ?_)
        · rw [if_neg hc] at hf
          refine lv_aload_n G.hx G.hb (dcs_get dec_X12_tell__0 19 rfl) rfl (lv_at hl 0 rfl) ?_
          obtain ⟨z7, e_z7, ok_z7, hf⟩ := cR_some hf
          have k_z7 := okr_in ok_z7
          refine r_getr (k := 64) cls12 fi_12_64.1 fi_12_64.2 q_1072 G w k_a0.1 k_a0.2 e_z7 (dcs_get dec_X12_tell__0 20 rfl) ?_
          refine lv_aload_n G.hx G.hb (dcs_get dec_X12_tell__0 21 rfl) rfl (lv_at hl 0 rfl) ?_
          refine r_geti (k := 63) cls12 fi_12_63.1 fi_12_63.2 q_1071 G w k_a0.1 k_a0.2 (dcs_get dec_X12_tell__0 22 rfl) ?_
          refine lv_iload_n G.hx G.hb (dcs_get dec_X12_tell__0 23 rfl) rfl (lv_at hl 1 rfl) ?_
          obtain ⟨h8, hf⟩ := cG_some hf
          obtain ⟨σ9, e_σ9, hf⟩ := cL_some hf
          refine r_iast G w k_z7.1 k_z7.2 h8 (dcs_get dec_X12_tell__0 24 rfl) (fun H locs w => ?_)
          have w := Wd.nm e_σ9 w
          refine lv_aload_n G.hx G.hb (dcs_get dec_X12_tell__0 25 rfl) rfl (lv_at hl 0 rfl) ?_
          obtain ⟨z10, e_z10, ok_z10, hf⟩ := cR_some hf
          have k_z10 := okr_in ok_z10
          refine r_getr (k := 65) cls12 fi_12_65.1 fi_12_65.2 q_1073 G w k_a0.1 k_a0.2 e_z10 (dcs_get dec_X12_tell__0 26 rfl) ?_
          refine lv_aload_n G.hx G.hb (dcs_get dec_X12_tell__0 27 rfl) rfl (lv_at hl 0 rfl) ?_
          refine r_geti (k := 63) cls12 fi_12_63.1 fi_12_63.2 q_1071 G w k_a0.1 k_a0.2 (dcs_get dec_X12_tell__0 28 rfl) ?_
          refine lv_iload_n G.hx G.hb (dcs_get dec_X12_tell__0 29 rfl) rfl (lv_at hl 2 rfl) ?_
          obtain ⟨h11, hf⟩ := cG_some hf
          obtain ⟨σ12, e_σ12, hf⟩ := cL_some hf
          refine r_iast G w k_z10.1 k_z10.2 h11 (dcs_get dec_X12_tell__0 30 rfl) (fun H locs w => ?_)
          have w := Wd.nm e_σ12 w
          refine lv_aload_n G.hx G.hb (dcs_get dec_X12_tell__0 31 rfl) rfl (lv_at hl 0 rfl) ?_
          obtain ⟨z13, e_z13, ok_z13, hf⟩ := cR_some hf
          have k_z13 := okr_in ok_z13
          refine r_getr (k := 66) cls12 fi_12_66.1 fi_12_66.2 q_1074 G w k_a0.1 k_a0.2 e_z13 (dcs_get dec_X12_tell__0 32 rfl) ?_
          refine lv_aload_n G.hx G.hb (dcs_get dec_X12_tell__0 33 rfl) rfl (lv_at hl 0 rfl) ?_
          refine r_geti (k := 63) cls12 fi_12_63.1 fi_12_63.2 q_1071 G w k_a0.1 k_a0.2 (dcs_get dec_X12_tell__0 34 rfl) ?_
          refine lv_iload_n G.hx G.hb (dcs_get dec_X12_tell__0 35 rfl) rfl (lv_at hl 3 rfl) ?_
          obtain ⟨h14, hf⟩ := cG_some hf
          obtain ⟨σ15, e_σ15, hf⟩ := cL_some hf
          refine r_iast G w k_z13.1 k_z13.2 h14 (dcs_get dec_X12_tell__0 36 rfl) (fun H locs w => ?_)
          have w := Wd.nm e_σ15 w
          refine lv_aload_n G.hx G.hb (dcs_get dec_X12_tell__0 37 rfl) rfl (lv_at hl 0 rfl) ?_
          refine lv_dup G.hx G.hb (dcs_get dec_X12_tell__0 38 rfl) rfl ?_
          refine r_geti (k := 63) cls12 fi_12_63.1 fi_12_63.2 q_1071 G w k_a0.1 k_a0.2 (dcs_get dec_X12_tell__0 39 rfl) ?_
          refine lv_iconst (v := (1 : Int32)) G.hx G.hb (dcs_get dec_X12_tell__1 0 rfl) (by decide) ?_
          refine lv_iadd G.hx G.hb (dcs_get dec_X12_tell__1 1 rfl) ?_
          obtain ⟨σ16, e_σ16, hf⟩ := cL_some hf
          refine r_puti (k := 63) cls12 ct12 fi_12_63.1 fi_12_63.2 fp_12_63.1 fp_12_63.2 q_1071 rfl rfl G w k_a0.1 k_a0.2 (dcs_get dec_X12_tell__1 2 rfl) (fun H locs w => ?_)
          have w := Wd.nm e_σ16 w
          refine lv_aload_n G.hx G.hb (dcs_get dec_X12_tell__1 3 rfl) rfl (lv_at hl 0 rfl) ?_
          refine r_geti (k := 63) cls12 fi_12_63.1 fi_12_63.2 q_1071 G w k_a0.1 k_a0.2 (dcs_get dec_X12_tell__1 4 rfl) ?_
          refine lv_iconst (v := (1 : Int32)) G.hx G.hb (dcs_get dec_X12_tell__1 5 rfl) (by decide) ?_
          refine lv_isub G.hx G.hb (dcs_get dec_X12_tell__1 6 rfl) ?_
          have e9 := Option.some.inj hf
          exact r_iret G w hm (congrArg Prod.fst e9) (congrArg Prod.snd e9) (dcs_get dec_X12_tell__1 7 rfl)
        · rw [if_pos hc] at hf
          exact B_X12_tell__35  σ G hm  hf  w (lv_sub hl [] rfl)
end
set_option maxRecDepth 100000 in
set_option maxHeartbeats 4000000 in
theorem C_X12_tell_ {l : Launch} {D : va_G} {ay : Nat → ClassId} {ad : Nat → Nat} (hi : hInj NM ad) (a0 : Nat) (l1 : Int32) (l2 : Int32) (l3 : Int32) (σ : hSt) {r0 : Int32} {σ0 : hSt} (hf : F_X12_tell_ a0 l1 l2 l3 σ = some (r0, σ0)) (ok_a0 : okr kM NM 12 a0 = true) : hM l D ay kM NM ad yX12_tell_ cX12_tell_ 4 ((some .int)) (rmK 2 43) [.ref (ad a0), .int l1, .int l2, .int l3] σ (cI D ay kM NM ad r0 σ0) := by
  refine hM_in (by decide) hi (Nat.le_of_ble_eq_true rfl) ?_
  intro p e s m below meth c G hm w ls hl
  exact B_X12_tell__0 a0 l1 l2 l3 σ G hm ok_a0 hf w (lv_sub hl [0, 1, 2, 3] rfl)

/-! HillDrumsModel.forget()I -/
def DL_X12_forget_0 : List (Nat × Instr × Nat) := [(0, .aload_n 0, 1), (1, .getfield 257, 3), (4, .istore_n 1, 1), (5, .aload_n 0, 1), (6, .iconst 0, 1), (7, .putfield 257, 3), (10, .iload_n 1, 1), (11, .ireturn, 1)]
set_option maxRecDepth 100000 in
theorem dec_X12_forget_0 : dcs cX12_forget DL_X12_forget_0 = true := by decide +kernel
theorem lb_X12_forget : lkB yX12_forget cX12_forget 2 ((some .int)) 0 := ⟨q_1554, q_14, ⟨by decide, by decide⟩, by decide +kernel⟩
theorem lv_X12_forget : lkV yX12_forget := ⟨q_1552, q_1553⟩
def F_X12_forget (a0 : Nat) (σ : hSt) : Option (Int32 × hSt) :=
cL (σ.1 a0 63) fun v1 =>
cL (uI σ a0 63 (0 : Int32)) fun σ2 =>
some ((v1, σ2))
section
variable {p : Program} {l : Launch} {e : Env} {s : State} {m : MethodId} {args : Array Value} {below : List Frame} {meth : Method} {c : Code} {D : va_G} {ay : Nat → ClassId} {ad : Nat → Nat}
set_option maxRecDepth 100000 in
set_option maxHeartbeats 4000000 in
theorem B_X12_forget_0 {H : Heap} {locs : List Loc} {ls : Array Slot} {r0 : Int32} {σ0 : hSt} (a0 : Nat) (σ : hSt) (G : Gx p m c cX12_forget 2 s args RX12 D ay NM ad (aN NM ad)) (hm : meth.sig.returnType = (some .int) ∧ meth.locks = false) (ok_a0 : okr kM NM 12 a0 = true) (hf : F_X12_forget a0 σ = some (r0, σ0))  (w : Wd D ay kM NM ad (aN NM ad) s σ H locs) (hl : lv_has ls 2 [(0, .ref (ad a0))]) : W p l e (rmK 0 0) s m args below meth c H locs 0 0 (MQ below (cI D ay kM NM ad r0 σ0) args s 0 0 (aN NM ad)) (F0 m 0 ls []) := by
  have k_a0 := okr_in ok_a0
  unfold F_X12_forget at hf
  refine lv_aload_n G.hx G.hb (dcs_get dec_X12_forget_0 0 rfl) rfl (lv_at hl 0 rfl) ?_
  refine r_geti (k := 63) cls12 fi_12_63.1 fi_12_63.2 q_1071 G w k_a0.1 k_a0.2 (dcs_get dec_X12_forget_0 1 rfl) ?_
  obtain ⟨v1, e_v1, hf⟩ := cL_some hf
  refine r_topi e_v1 ?_
  refine lv_istore_n (lv' := [(1, .int v1), (0, .ref (ad a0))]) G.hx G.hb (dcs_get dec_X12_forget_0 2 rfl) rfl hl (by decide) rfl (fun ls hl => ?_)
  refine lv_aload_n G.hx G.hb (dcs_get dec_X12_forget_0 3 rfl) rfl (lv_at hl 1 rfl) ?_
  refine lv_iconst (v := (0 : Int32)) G.hx G.hb (dcs_get dec_X12_forget_0 4 rfl) (by decide) ?_
  obtain ⟨σ2, e_σ2, hf⟩ := cL_some hf
  refine r_puti (k := 63) cls12 ct12 fi_12_63.1 fi_12_63.2 fp_12_63.1 fp_12_63.2 q_1071 rfl rfl G w k_a0.1 k_a0.2 (dcs_get dec_X12_forget_0 5 rfl) (fun H locs w => ?_)
  have w := Wd.nm e_σ2 w
  refine lv_iload_n G.hx G.hb (dcs_get dec_X12_forget_0 6 rfl) rfl (lv_at hl 0 rfl) ?_
  have e9 := Option.some.inj hf
  exact r_iret G w hm (congrArg Prod.fst e9) (congrArg Prod.snd e9) (dcs_get dec_X12_forget_0 7 rfl)
end
set_option maxRecDepth 100000 in
set_option maxHeartbeats 4000000 in
theorem C_X12_forget {l : Launch} {D : va_G} {ay : Nat → ClassId} {ad : Nat → Nat} (hi : hInj NM ad) (a0 : Nat) (σ : hSt) {r0 : Int32} {σ0 : hSt} (hf : F_X12_forget a0 σ = some (r0, σ0)) (ok_a0 : okr kM NM 12 a0 = true) : hM l D ay kM NM ad yX12_forget cX12_forget 2 ((some .int)) (rmK 0 0) [.ref (ad a0)] σ (cI D ay kM NM ad r0 σ0) := by
  refine hM_in (by decide) hi (Nat.le_of_ble_eq_true rfl) ?_
  intro p e s m below meth c G hm w ls hl
  exact B_X12_forget_0 a0 σ G hm ok_a0 hf w (lv_sub hl [0] rfl)

/-! HillDrumsModel.isSo(III)Z -/
def DL_X12_isSo_0 : List (Nat × Instr × Nat) := [(0, .aload_n 0, 1), (1, .invokevirtual 162, 3), (4, .iconst 0, 1), (5, .istore 4, 2), (7, .iload 4, 2), (9, .bipush 6, 2), (11, .if_icmp .ge 21, 3), (14, .aload_n 0, 1), (15, .getfield 128, 3), (18, .iconst 4, 1), (19, .iload 4, 2), (21, .imul, 1), (22, .iload_n 1, 1), (23, .iadd, 1), (24, .iconst 0, 1), (25, .iastore, 1), (26, .iinc 4 1, 3), (29, .goto (-22), 3), (32, .aload_n 0, 1), (33, .iload_n 2, 1), (34, .iload_n 1, 1), (35, .invokevirtual 345, 3), (38, .iconst (-1), 1), (39, .istore 4, 2), (41, .iconst 0, 1), (42, .istore 5, 2), (44, .iload 5, 2), (46, .iload_n 3, 1), (47, .if_icmp .ge 41, 3), (50, .aload_n 0, 1), (51, .getfield 146, 3), (54, .iload 5, 2), (56, .iaload, 1), (57, .iload_n 1, 1), (58, .if_icmp .ne 24, 3), (61, .aload_n 0, 1), (62, .getfield 149, 3), (65, .iload 5, 2), (67, .iaload, 1), (68, .iload 4, 2)]
set_option maxRecDepth 100000 in
theorem dec_X12_isSo_0 : dcs cX12_isSo DL_X12_isSo_0 = true := by decide +kernel
def DL_X12_isSo_1 : List (Nat × Instr × Nat) := [(70, .if_icmp .le 12, 3), (73, .aload_n 0, 1), (74, .getfield 149, 3), (77, .iload 5, 2), (79, .iaload, 1), (80, .istore 4, 2), (82, .iinc 5 1, 3), (85, .goto (-41), 3), (88, .iconst 0, 1), (89, .istore 5, 2), (91, .iload 5, 2), (93, .iload 4, 2), (95, .if_icmp .gt 13, 3), (98, .aload_n 0, 1), (99, .invokevirtual 390, 3), (102, .iinc 5 1, 3), (105, .goto (-14), 3), (108, .iconst 0, 1), (109, .istore 5, 2), (111, .iload 5, 2), (113, .iload_n 3, 1), (114, .if_icmp .ge 65, 3), (117, .iconst 4, 1), (118, .aload_n 0, 1), (119, .getfield 143, 3), (122, .iload 5, 2), (124, .iaload, 1), (125, .imul, 1), (126, .iload_n 1, 1), (127, .iadd, 1), (128, .istore 6, 2), (130, .aload_n 0, 1), (131, .getfield 146, 3), (134, .iload 5, 2), (136, .iaload, 1), (137, .iload_n 1, 1), (138, .if_icmp .ne 35, 3), (141, .aload_n 0, 1), (142, .getfield 128, 3), (145, .iload 6, 2)]
set_option maxRecDepth 100000 in
theorem dec_X12_isSo_1 : dcs cX12_isSo DL_X12_isSo_1 = true := by decide +kernel
def DL_X12_isSo_2 : List (Nat × Instr × Nat) := [(147, .iaload, 1), (148, .ifCond .eq 23, 3), (151, .aload_n 0, 1), (152, .getfield 128, 3), (155, .bipush 24, 2), (157, .iload 6, 2), (159, .iadd, 1), (160, .iaload, 1), (161, .aload_n 0, 1), (162, .getfield 149, 3), (165, .iload 5, 2), (167, .iaload, 1), (168, .if_icmp .eq 5, 3), (171, .iconst 0, 1), (172, .ireturn, 1), (173, .iinc 5 1, 3), (176, .goto (-65), 3), (179, .iconst 1, 1), (180, .ireturn, 1)]
set_option maxRecDepth 100000 in
theorem dec_X12_isSo_2 : dcs cX12_isSo DL_X12_isSo_2 = true := by decide +kernel
theorem lb_X12_isSo : lkB yX12_isSo cX12_isSo 7 ((some .boolean)) 3 := ⟨q_1562, q_14, ⟨by decide, by decide⟩, by decide +kernel⟩
theorem lv_X12_isSo : lkV yX12_isSo := ⟨q_1561, qs_122⟩
def F_X12_isSo_82 (a0 : Nat) (l1 : Int32) (l3 : Int32) (l4 : Int32) (l5 : Int32) (σ : hSt) : Option ((Int32 × Int32) ⊕ (Int32 × hSt)) :=
cL (l5 + (1 : Int32)) fun v1 =>
some (.inl (l4, v1))
def F_X12_isSo_171  (σ : hSt) : Option (Int32 × hSt) :=
some (((0 : Int32), σ))
def F_X12_isSo_173 (a0 : Nat) (l1 : Int32) (l3 : Int32) (l5 : Int32) (σ : hSt) : Option ((Int32) ⊕ (Int32 × hSt)) :=
cL (l5 + (1 : Int32)) fun v2 =>
some (.inl (v2))
def F_X12_isSo_111b (a0 : Nat) (l1 : Int32) (l3 : Int32) (l5 : Int32) (σ : hSt) : Option ((Int32) ⊕ (Int32 × hSt)) :=
if l3 ≤ l5 then (
some (.inr (((1 : Int32), σ)))) else (
cR (σ.2.2 a0 64) (okr kM NM 101) fun z3 =>
cG (inb l5 (kM z3).2) <|
cL (((4 : Int32) * (σ.1 z3 l5.toNatClampNeg)) + l1) fun v5 =>
cR (σ.2.2 a0 65) (okr kM NM 101) fun z6 =>
cG (inb l5 (kM z6).2) <|
if (σ.1 z6 l5.toNatClampNeg) = l1 then (
cR (σ.2.2 a0 54) (okr kM NM 101) fun z8 =>
cG (inb v5 (kM z8).2) <|
if (σ.1 z8 v5.toNatClampNeg) = 0 then (
(F_X12_isSo_171  σ).map (fun x => .inr (x))) else (
cR (σ.2.2 a0 54) (okr kM NM 101) fun z10 =>
cG (inb ((24 : Int32) + v5) (kM z10).2) <|
cR (σ.2.2 a0 66) (okr kM NM 101) fun z12 =>
cG (inb l5 (kM z12).2) <|
if (σ.1 z10 ((24 : Int32) + v5).toNatClampNeg) = (σ.1 z12 l5.toNatClampNeg) then (
F_X12_isSo_173 a0 l1 l3 l5 σ) else (
(F_X12_isSo_171  σ).map (fun x => .inr (x))))) else (
F_X12_isSo_173 a0 l1 l3 l5 σ))
def S_X12_isSo_111 (a0 : Nat) (l1 : Int32) (l3 : Int32) (σ : hSt) (v : Int32) : Option ((Int32) ⊕ (Int32 × hSt)) := F_X12_isSo_111b a0 l1 l3 v σ
def F_X12_isSo_111 (a0 : Nat) (l1 : Int32) (l3 : Int32) (l5 : Int32) (σ : hSt) : Option (Int32 × hSt) := lp (S_X12_isSo_111 a0 l1 l3 σ) fuel (l5)
def F_X12_isSo_91b (a0 : Nat) (l1 : Int32) (l3 : Int32) (l4 : Int32) (l5 : Int32) (σ : hSt) : Option ((Int32 × hSt) ⊕ (Int32 × hSt)) :=
if l4 < l5 then (
(F_X12_isSo_111 a0 l1 l3 (0 : Int32) σ).map (fun x => .inr (x))) else (
(F_X12_dayByRule a0 σ).bind fun σ15 =>
cL (l5 + (1 : Int32)) fun v16 =>
some (.inl (v16, σ15)))
def S_X12_isSo_91 (a0 : Nat) (l1 : Int32) (l3 : Int32) (l4 : Int32) (v : Int32 × hSt) : Option ((Int32 × hSt) ⊕ (Int32 × hSt)) := F_X12_isSo_91b a0 l1 l3 l4 v.1 v.2
def F_X12_isSo_91 (a0 : Nat) (l1 : Int32) (l3 : Int32) (l4 : Int32) (l5 : Int32) (σ : hSt) : Option (Int32 × hSt) := lp (S_X12_isSo_91 a0 l1 l3 l4) fuel (l5, σ)
def F_X12_isSo_44b (a0 : Nat) (l1 : Int32) (l3 : Int32) (l4 : Int32) (l5 : Int32) (σ : hSt) : Option ((Int32 × Int32) ⊕ (Int32 × hSt)) :=
if l3 ≤ l5 then (
(F_X12_isSo_91 a0 l1 l3 l4 (0 : Int32) σ).map (fun x => .inr (x))) else (
cR (σ.2.2 a0 65) (okr kM NM 101) fun z17 =>
cG (inb l5 (kM z17).2) <|
if (σ.1 z17 l5.toNatClampNeg) = l1 then (
cR (σ.2.2 a0 66) (okr kM NM 101) fun z19 =>
cG (inb l5 (kM z19).2) <|
if (σ.1 z19 l5.toNatClampNeg) ≤ l4 then (
F_X12_isSo_82 a0 l1 l3 l4 l5 σ) else (
cR (σ.2.2 a0 66) (okr kM NM 101) fun z21 =>
cG (inb l5 (kM z21).2) <|
cL (σ.1 z21 l5.toNatClampNeg) fun v23 =>
F_X12_isSo_82 a0 l1 l3 v23 l5 σ)) else (
F_X12_isSo_82 a0 l1 l3 l4 l5 σ))
def S_X12_isSo_44 (a0 : Nat) (l1 : Int32) (l3 : Int32) (σ : hSt) (v : Int32 × Int32) : Option ((Int32 × Int32) ⊕ (Int32 × hSt)) := F_X12_isSo_44b a0 l1 l3 v.1 v.2 σ
def F_X12_isSo_44 (a0 : Nat) (l1 : Int32) (l3 : Int32) (l4 : Int32) (l5 : Int32) (σ : hSt) : Option (Int32 × hSt) := lp (S_X12_isSo_44 a0 l1 l3 σ) fuel (l4, l5)
def F_X12_isSo_7b (a0 : Nat) (l1 : Int32) (l2 : Int32) (l3 : Int32) (l4 : Int32) (σ : hSt) : Option ((Int32 × hSt) ⊕ (Int32 × hSt)) :=
if (6 : Int32) ≤ l4 then (
(F_X12_knowsFromBegin a0 l2 l1 σ).bind fun σ25 =>
(F_X12_isSo_44 a0 l1 l3 (-1 : Int32) (0 : Int32) σ25).map (fun x => .inr (x))) else (
cR (σ.2.2 a0 54) (okr kM NM 101) fun z26 =>
cG (inb (((4 : Int32) * l4) + l1) (kM z26).2) <|
cL (uI σ z26 (((4 : Int32) * l4) + l1).toNatClampNeg (0 : Int32)) fun σ28 =>
cL (l4 + (1 : Int32)) fun v29 =>
some (.inl (v29, σ28)))
def S_X12_isSo_7 (a0 : Nat) (l1 : Int32) (l2 : Int32) (l3 : Int32) (v : Int32 × hSt) : Option ((Int32 × hSt) ⊕ (Int32 × hSt)) := F_X12_isSo_7b a0 l1 l2 l3 v.1 v.2
def F_X12_isSo_7 (a0 : Nat) (l1 : Int32) (l2 : Int32) (l3 : Int32) (l4 : Int32) (σ : hSt) : Option (Int32 × hSt) := lp (S_X12_isSo_7 a0 l1 l2 l3) fuel (l4, σ)
def F_X12_isSo (a0 : Nat) (l1 : Int32) (l2 : Int32) (l3 : Int32) (σ : hSt) : Option (Int32 × hSt) :=
(F_X12_begins a0 σ).bind fun σ31 =>
F_X12_isSo_7 a0 l1 l2 l3 (0 : Int32) σ31
section
variable {p : Program} {l : Launch} {e : Env} {s : State} {m : MethodId} {args : Array Value} {below : List Frame} {meth : Method} {c : Code} {D : va_G} {ay : Nat → ClassId} {ad : Nat → Nat}
set_option maxRecDepth 100000 in
set_option maxHeartbeats 4000000 in
theorem B_X12_isSo_82 {H : Heap} {locs : List Loc} {ls : Array Slot} {r0 : Int32} {σ0 : hSt} {o : (Int32 × Int32) ⊕ (Int32 × hSt)} (a0 : Nat) (l1 : Int32) (l3 : Int32) (l4 : Int32) (l5 : Int32) (σ : hSt) (G : Gx p m c cX12_isSo 7 s args RX12 D ay NM ad (aN NM ad)) (hm : meth.sig.returnType = (some .boolean) ∧ meth.locks = false) (ok_a0 : okr kM NM 12 a0 = true) (hf : F_X12_isSo_82 a0 l1 l3 l4 l5 σ = some o) (hb0 : ∀ (v : Int32 × Int32), o = .inl v → ∀ (H : Heap) (locs : List Loc) (ls : Array Slot), Wd D ay kM NM ad (aN NM ad) s σ H locs → lv_has ls 7 [(0, .ref (ad a0)), (1, .int l1), (3, .int l3), (4, .int v.1), (5, .int v.2)] → W p l e (rmK 6 147) s m args below meth c H locs 0 0 (MQ below (cI D ay kM NM ad r0 σ0) args s 0 0 (aN NM ad)) (F0 m 44 ls [])) (hr : ∀ x, o = .inr (x) → x = (r0, σ0)) (w : Wd D ay kM NM ad (aN NM ad) s σ H locs) (hl : lv_has ls 7 [(0, .ref (ad a0)), (1, .int l1), (3, .int l3), (4, .int l4), (5, .int l5)]) : W p l e (rmK 6 147) s m args below meth c H locs 0 0 (MQ below (cI D ay kM NM ad r0 σ0) args s 0 0 (aN NM ad)) (F0 m 82 ls []) := by
  have k_a0 := okr_in ok_a0
  unfold F_X12_isSo_82 at hf
  obtain ⟨v1, e_v1, hf⟩ := cL_some hf
  refine lv_iinc (v := v1) (lv' := [(5, .int v1), (0, .ref (ad a0)), (1, .int l1), (3, .int l3), (4, .int l4)]) G.hx G.hb (dcs_get dec_X12_isSo_1 6 rfl) hl (k := 4) rfl (by rw [e_v1]; rfl) (by decide) rfl (fun ls hl => ?_)
  refine lv_goto (tgt := 44) G.hx G.hb (dcs_get dec_X12_isSo_1 7 rfl) (by decide) ?_
  exact hb0 _ (Option.some.inj hf).symm _ _ _ w (lv_sub hl [1, 2, 3, 4, 0] rfl)
set_option maxRecDepth 100000 in
set_option maxHeartbeats 4000000 in
theorem B_X12_isSo_171 {H : Heap} {locs : List Loc} {ls : Array Slot} {r0 : Int32} {σ0 : hSt}  (σ : hSt) (G : Gx p m c cX12_isSo 7 s args RX12 D ay NM ad (aN NM ad)) (hm : meth.sig.returnType = (some .boolean) ∧ meth.locks = false)  (hf : F_X12_isSo_171  σ = some (r0, σ0))  (w : Wd D ay kM NM ad (aN NM ad) s σ H locs) (hl : lv_has ls 7 []) : W p l e (rmK 6 147) s m args below meth c H locs 0 0 (MQ below (cI D ay kM NM ad r0 σ0) args s 0 0 (aN NM ad)) (F0 m 171 ls []) := by
  unfold F_X12_isSo_171 at hf
  refine lv_iconst (v := (0 : Int32)) G.hx G.hb (dcs_get dec_X12_isSo_2 13 rfl) (by decide) ?_
  have e9 := Option.some.inj hf
  exact r_zret rfl G w hm (congrArg Prod.fst e9) (congrArg Prod.snd e9) (dcs_get dec_X12_isSo_2 14 rfl)
set_option maxRecDepth 100000 in
set_option maxHeartbeats 4000000 in
theorem B_X12_isSo_173 {H : Heap} {locs : List Loc} {ls : Array Slot} {r0 : Int32} {σ0 : hSt} {o : (Int32) ⊕ (Int32 × hSt)} (a0 : Nat) (l1 : Int32) (l3 : Int32) (l5 : Int32) (σ : hSt) (G : Gx p m c cX12_isSo 7 s args RX12 D ay NM ad (aN NM ad)) (hm : meth.sig.returnType = (some .boolean) ∧ meth.locks = false) (ok_a0 : okr kM NM 12 a0 = true) (hf : F_X12_isSo_173 a0 l1 l3 l5 σ = some o) (hb0 : ∀ (v : Int32), o = .inl v → ∀ (H : Heap) (locs : List Loc) (ls : Array Slot), Wd D ay kM NM ad (aN NM ad) s σ H locs → lv_has ls 7 [(0, .ref (ad a0)), (1, .int l1), (3, .int l3), (5, .int v)] → W p l e (rmK 6 147) s m args below meth c H locs 0 0 (MQ below (cI D ay kM NM ad r0 σ0) args s 0 0 (aN NM ad)) (F0 m 111 ls [])) (hr : ∀ x, o = .inr (x) → x = (r0, σ0)) (w : Wd D ay kM NM ad (aN NM ad) s σ H locs) (hl : lv_has ls 7 [(0, .ref (ad a0)), (1, .int l1), (3, .int l3), (5, .int l5)]) : W p l e (rmK 6 147) s m args below meth c H locs 0 0 (MQ below (cI D ay kM NM ad r0 σ0) args s 0 0 (aN NM ad)) (F0 m 173 ls []) := by
  have k_a0 := okr_in ok_a0
  unfold F_X12_isSo_173 at hf
  obtain ⟨v2, e_v2, hf⟩ := cL_some hf
  refine lv_iinc (v := v2) (lv' := [(5, .int v2), (0, .ref (ad a0)), (1, .int l1), (3, .int l3)]) G.hx G.hb (dcs_get dec_X12_isSo_2 15 rfl) hl (k := 3) rfl (by rw [e_v2]; rfl) (by decide) rfl (fun ls hl => ?_)
  refine lv_goto (tgt := 111) G.hx G.hb (dcs_get dec_X12_isSo_2 16 rfl) (by decide) ?_
  exact hb0 _ (Option.some.inj hf).symm _ _ _ w (lv_sub hl [1, 2, 3, 0] rfl)
set_option maxRecDepth 100000 in
set_option maxHeartbeats 4000000 in
theorem B_X12_isSo_111b {H : Heap} {locs : List Loc} {ls : Array Slot} {r0 : Int32} {σ0 : hSt} {o : (Int32) ⊕ (Int32 × hSt)} (a0 : Nat) (l1 : Int32) (l3 : Int32) (l5 : Int32) (σ : hSt) (G : Gx p m c cX12_isSo 7 s args RX12 D ay NM ad (aN NM ad)) (hm : meth.sig.returnType = (some .boolean) ∧ meth.locks = false) (ok_a0 : okr kM NM 12 a0 = true) (hf : F_X12_isSo_111b a0 l1 l3 l5 σ = some o) (hb0 : ∀ (v : Int32), o = .inl v → ∀ (H : Heap) (locs : List Loc) (ls : Array Slot), Wd D ay kM NM ad (aN NM ad) s σ H locs → lv_has ls 7 [(0, .ref (ad a0)), (1, .int l1), (3, .int l3), (5, .int v)] → W p l e (rmK 6 147) s m args below meth c H locs 0 0 (MQ below (cI D ay kM NM ad r0 σ0) args s 0 0 (aN NM ad)) (F0 m 111 ls [])) (hr : ∀ x, o = .inr (x) → x = (r0, σ0)) (w : Wd D ay kM NM ad (aN NM ad) s σ H locs) (hl : lv_has ls 7 [(0, .ref (ad a0)), (1, .int l1), (3, .int l3), (5, .int l5)]) : W p l e (rmK 6 147) s m args below meth c H locs 0 0 (MQ below (cI D ay kM NM ad r0 σ0) args s 0 0 (aN NM ad)) (F0 m 111 ls []) := by
  have k_a0 := okr_in ok_a0
  unfold F_X12_isSo_111b at hf
  refine lv_iload G.hx G.hb (dcs_get dec_X12_isSo_1 19 rfl) (lv_at hl 3 rfl) ?_
  refine lv_iload_n G.hx G.hb (dcs_get dec_X12_isSo_1 20 rfl) rfl (lv_at hl 2 rfl) ?_
  refine lv_icmp_ge (tgt := 179) G.hx G.hb (dcs_get dec_X12_isSo_1 21 rfl) (by decide) (fun hc => ?_) (fun hc => ?_)
  · rw [if_pos hc] at hf
    refine lv_iconst (v := (1 : Int32)) G.hx G.hb (dcs_get dec_X12_isSo_2 17 rfl) (by decide) ?_
    have e9 := hr _ (Option.some.inj hf).symm
    exact r_zret rfl G w hm (congrArg Prod.fst e9) (congrArg Prod.snd e9) (dcs_get dec_X12_isSo_2 18 rfl)
  · rw [if_neg hc] at hf
    refine lv_iconst (v := (4 : Int32)) G.hx G.hb (dcs_get dec_X12_isSo_1 22 rfl) (by decide) ?_
    refine lv_aload_n G.hx G.hb (dcs_get dec_X12_isSo_1 23 rfl) rfl (lv_at hl 0 rfl) ?_
    obtain ⟨z3, e_z3, ok_z3, hf⟩ := cR_some hf
    have k_z3 := okr_in ok_z3
    refine r_getr (k := 64) cls12 fi_12_64.1 fi_12_64.2 q_1072 G w k_a0.1 k_a0.2 e_z3 (dcs_get dec_X12_isSo_1 24 rfl) ?_
    refine lv_iload G.hx G.hb (dcs_get dec_X12_isSo_1 25 rfl) (lv_at hl 3 rfl) ?_
    obtain ⟨h4, hf⟩ := cG_some hf
    refine r_iald G w k_z3.1 k_z3.2 h4 (dcs_get dec_X12_isSo_1 26 rfl) ?_
    refine lv_imul G.hx G.hb (dcs_get dec_X12_isSo_1 27 rfl) ?_
    refine lv_iload_n G.hx G.hb (dcs_get dec_X12_isSo_1 28 rfl) rfl (lv_at hl 1 rfl) ?_
    refine lv_iadd G.hx G.hb (dcs_get dec_X12_isSo_1 29 rfl) ?_
    obtain ⟨v5, e_v5, hf⟩ := cL_some hf
    refine r_topi e_v5 ?_
    refine lv_istore (lv' := [(6, .int v5), (0, .ref (ad a0)), (1, .int l1), (3, .int l3), (5, .int l5)]) G.hx G.hb (dcs_get dec_X12_isSo_1 30 rfl) hl (by decide) rfl (fun ls hl => ?_)
    refine lv_aload_n G.hx G.hb (dcs_get dec_X12_isSo_1 31 rfl) rfl (lv_at hl 1 rfl) ?_
    obtain ⟨z6, e_z6, ok_z6, hf⟩ := cR_some hf
    have k_z6 := okr_in ok_z6
    refine r_getr (k := 65) cls12 fi_12_65.1 fi_12_65.2 q_1073 G w k_a0.1 k_a0.2 e_z6 (dcs_get dec_X12_isSo_1 32 rfl) ?_
    refine lv_iload G.hx G.hb (dcs_get dec_X12_isSo_1 33 rfl) (lv_at hl 4 rfl) ?_
    obtain ⟨h7, hf⟩ := cG_some hf
    refine r_iald G w k_z6.1 k_z6.2 h7 (dcs_get dec_X12_isSo_1 34 rfl) ?_
    refine lv_iload_n G.hx G.hb (dcs_get dec_X12_isSo_1 35 rfl) rfl (lv_at hl 2 rfl) ?_
    refine lv_icmp_ne (tgt := 173) G.hx G.hb (dcs_get dec_X12_isSo_1 36 rfl) (by decide) (fun hc => ?_) (fun hc => ?_)
    · rw [if_neg hc] at hf
      exact B_X12_isSo_173 a0 l1 l3 l5 σ G hm ok_a0 hf hb0 hr w (lv_sub hl [1, 2, 3, 4] rfl)
    · rw [if_pos hc] at hf
      refine lv_aload_n G.hx G.hb (dcs_get dec_X12_isSo_1 37 rfl) rfl (lv_at hl 1 rfl) ?_
      obtain ⟨z8, e_z8, ok_z8, hf⟩ := cR_some hf
      have k_z8 := okr_in ok_z8
      refine r_getr (k := 54) cls12 fi_12_54.1 fi_12_54.2 q_1062 G w k_a0.1 k_a0.2 e_z8 (dcs_get dec_X12_isSo_1 38 rfl) ?_
      refine lv_iload G.hx G.hb (dcs_get dec_X12_isSo_1 39 rfl) (lv_at hl 0 rfl) ?_
      obtain ⟨h9, hf⟩ := cG_some hf
      refine r_iald G w k_z8.1 k_z8.2 h9 (dcs_get dec_X12_isSo_2 0 rfl) ?_
      refine lv_if_eq (tgt := 171) G.hx G.hb (dcs_get dec_X12_isSo_2 1 rfl) (by decide) (fun hc => ?_) (fun hc => ?_)
      · rw [if_pos hc] at hf
        obtain ⟨x9, h9, e9⟩ := map_some_inv hf
        subst e9
        have e8 := hr _ rfl
        rw [e8] at h9
        exact B_X12_isSo_171  σ G hm  h9 w (lv_sub hl [] rfl)
      · rw [if_neg hc] at hf
        refine lv_aload_n G.hx G.hb (dcs_get dec_X12_isSo_2 2 rfl) rfl (lv_at hl 1 rfl) ?_
        obtain ⟨z10, e_z10, ok_z10, hf⟩ := cR_some hf
        have k_z10 := okr_in ok_z10
        refine r_getr (k := 54) cls12 fi_12_54.1 fi_12_54.2 q_1062 G w k_a0.1 k_a0.2 e_z10 (dcs_get dec_X12_isSo_2 3 rfl) ?_
        refine lv_bipush (v := (24 : Int32)) G.hx G.hb (dcs_get dec_X12_isSo_2 4 rfl) (by decide) ?_
        refine lv_iload G.hx G.hb (dcs_get dec_X12_isSo_2 5 rfl) (lv_at hl 0 rfl) ?_
        refine lv_iadd G.hx G.hb (dcs_get dec_X12_isSo_2 6 rfl) ?_
        obtain ⟨h11, hf⟩ := cG_some hf
        refine r_iald G w k_z10.1 k_z10.2 h11 (dcs_get dec_X12_isSo_2 7 rfl) ?_
        refine lv_aload_n G.hx G.hb (dcs_get dec_X12_isSo_2 8 rfl) rfl (lv_at hl 1 rfl) ?_
        obtain ⟨z12, e_z12, ok_z12, hf⟩ := cR_some hf
        have k_z12 := okr_in ok_z12
        refine r_getr (k := 66) cls12 fi_12_66.1 fi_12_66.2 q_1074 G w k_a0.1 k_a0.2 e_z12 (dcs_get dec_X12_isSo_2 9 rfl) ?_
        refine lv_iload G.hx G.hb (dcs_get dec_X12_isSo_2 10 rfl) (lv_at hl 4 rfl) ?_
        obtain ⟨h13, hf⟩ := cG_some hf
        refine r_iald G w k_z12.1 k_z12.2 h13 (dcs_get dec_X12_isSo_2 11 rfl) ?_
        refine lv_icmp_eq (tgt := 173) G.hx G.hb (dcs_get dec_X12_isSo_2 12 rfl) (by decide) (fun hc => ?_) (fun hc => ?_)
        · rw [if_pos hc] at hf
          exact B_X12_isSo_173 a0 l1 l3 l5 σ G hm ok_a0 hf hb0 hr w (lv_sub hl [1, 2, 3, 4] rfl)
        · rw [if_neg hc] at hf
          obtain ⟨x9, h9, e9⟩ := map_some_inv hf
          subst e9
          have e8 := hr _ rfl
          rw [e8] at h9
          exact B_X12_isSo_171  σ G hm  h9 w (lv_sub hl [] rfl)
set_option maxRecDepth 100000 in
set_option maxHeartbeats 4000000 in
theorem H_X12_isSo_111 {r0 : Int32} {σ0 : hSt} (a0 : Nat) (l1 : Int32) (l3 : Int32) (σ : hSt) (G : Gx p m c cX12_isSo 7 s args RX12 D ay NM ad (aN NM ad)) (hm : meth.sig.returnType = (some .boolean) ∧ meth.locks = false) (ok_a0 : okr kM NM 12 a0 = true)  : ∀ (k : Nat) (v : Int32), lp (S_X12_isSo_111 a0 l1 l3 σ) k v = some (r0, σ0) → ∀ (H : Heap) (locs : List Loc) (ls : Array Slot), Wd D ay kM NM ad (aN NM ad) s σ H locs → lv_has ls 7 [(0, .ref (ad a0)), (1, .int l1), (3, .int l3), (5, .int v)] → W p l e (rmK 6 147) s m args below meth c H locs 0 0 (MQ below (cI D ay kM NM ad r0 σ0) args s 0 0 (aN NM ad)) (F0 m 111 ls []) := by
  intro k
  induction k with
  | zero => intro v hf; cases hf
  | succ k ih =>
    intro v hf H locs ls w hl
    obtain ⟨o1, h1, h2, h3⟩ := lp_some hf
    exact B_X12_isSo_111b a0 l1 l3 v σ G hm ok_a0 h1  (fun v' e => ih v' (h2 v' e)) (fun x e => h3 x e) w hl
set_option maxRecDepth 100000 in
set_option maxHeartbeats 4000000 in
theorem B_X12_isSo_111 {H : Heap} {locs : List Loc} {ls : Array Slot} {r0 : Int32} {σ0 : hSt} (a0 : Nat) (l1 : Int32) (l3 : Int32) (l5 : Int32) (σ : hSt) (G : Gx p m c cX12_isSo 7 s args RX12 D ay NM ad (aN NM ad)) (hm : meth.sig.returnType = (some .boolean) ∧ meth.locks = false) (ok_a0 : okr kM NM 12 a0 = true) (hf : F_X12_isSo_111 a0 l1 l3 l5 σ = some (r0, σ0))  (w : Wd D ay kM NM ad (aN NM ad) s σ H locs) (hl : lv_has ls 7 [(0, .ref (ad a0)), (1, .int l1), (3, .int l3), (5, .int l5)]) : W p l e (rmK 6 147) s m args below meth c H locs 0 0 (MQ below (cI D ay kM NM ad r0 σ0) args s 0 0 (aN NM ad)) (F0 m 111 ls []) := by
  unfold F_X12_isSo_111 at hf
  exact H_X12_isSo_111 a0 l1 l3 σ G hm ok_a0  fuel (l5) hf _ _ _ w hl
set_option maxRecDepth 100000 in
set_option maxHeartbeats 4000000 in
theorem B_X12_isSo_91b {H : Heap} {locs : List Loc} {ls : Array Slot} {r0 : Int32} {σ0 : hSt} {o : (Int32 × hSt) ⊕ (Int32 × hSt)} (a0 : Nat) (l1 : Int32) (l3 : Int32) (l4 : Int32) (l5 : Int32) (σ : hSt) (G : Gx p m c cX12_isSo 7 s args RX12 D ay NM ad (aN NM ad)) (hm : meth.sig.returnType = (some .boolean) ∧ meth.locks = false) (ok_a0 : okr kM NM 12 a0 = true) (hf : F_X12_isSo_91b a0 l1 l3 l4 l5 σ = some o) (hb0 : ∀ (v : Int32 × hSt), o = .inl v → ∀ (H : Heap) (locs : List Loc) (ls : Array Slot), Wd D ay kM NM ad (aN NM ad) s v.2 H locs → lv_has ls 7 [(0, .ref (ad a0)), (1, .int l1), (3, .int l3), (4, .int l4), (5, .int v.1)] → W p l e (rmK 6 147) s m args below meth c H locs 0 0 (MQ below (cI D ay kM NM ad r0 σ0) args s 0 0 (aN NM ad)) (F0 m 91 ls [])) (hr : ∀ x, o = .inr (x) → x = (r0, σ0)) (w : Wd D ay kM NM ad (aN NM ad) s σ H locs) (hl : lv_has ls 7 [(0, .ref (ad a0)), (1, .int l1), (3, .int l3), (4, .int l4), (5, .int l5)]) : W p l e (rmK 6 147) s m args below meth c H locs 0 0 (MQ below (cI D ay kM NM ad r0 σ0) args s 0 0 (aN NM ad)) (F0 m 91 ls []) := by
  have k_a0 := okr_in ok_a0
  unfold F_X12_isSo_91b at hf
  refine lv_iload G.hx G.hb (dcs_get dec_X12_isSo_1 10 rfl) (lv_at hl 4 rfl) ?_
  refine lv_iload G.hx G.hb (dcs_get dec_X12_isSo_1 11 rfl) (lv_at hl 3 rfl) ?_
  refine lv_icmp_gt (tgt := 108) G.hx G.hb (dcs_get dec_X12_isSo_1 12 rfl) (by decide) (fun hc => ?_) (fun hc => ?_)
  · rw [if_pos hc] at hf
    refine lv_iconst (v := (0 : Int32)) G.hx G.hb (dcs_get dec_X12_isSo_1 17 rfl) (by decide) ?_
    refine lv_istore (lv' := [(5, .int (0 : Int32)), (0, .ref (ad a0)), (1, .int l1), (3, .int l3), (4, .int l4)]) G.hx G.hb (dcs_get dec_X12_isSo_1 18 rfl) hl (by decide) rfl (fun ls hl => ?_)
    obtain ⟨x9, h9, e9⟩ := map_some_inv hf
    subst e9
    have e8 := hr _ rfl
    rw [e8] at h9
    exact B_X12_isSo_111 a0 l1 l3 (0 : Int32) σ G hm ok_a0 h9 w (lv_sub hl [1, 2, 3, 0] rfl)
  · rw [if_neg hc] at hf
    refine lv_aload_n G.hx G.hb (dcs_get dec_X12_isSo_1 13 rfl) rfl (lv_at hl 0 rfl) ?_
    obtain ⟨σ15, h14, hf⟩ := cB_some hf
    refine a_v (k_V (As := []) (rest := []) cls12 lb_X12_dayByRule lv_X12_dayByRule q_1436 (C_X12_dayByRule G.2.2.1 a0 σ h14 ok_a0) ⟨(Nat.le_of_ble_eq_true rfl), (Nat.le_of_ble_eq_true rfl)⟩ G w k_a0.1 k_a0.2 rfl rfl hl.1 (Nat.le_of_ble_eq_true rfl) (dcs_get dec_X12_isSo_1 14 rfl) ⟨Nat.le_refl _, Nat.le_refl _⟩) G w (fun H locs w => ?_)
    obtain ⟨v16, e_v16, hf⟩ := cL_some hf
    refine lv_iinc (v := v16) (lv' := [(5, .int v16), (0, .ref (ad a0)), (1, .int l1), (3, .int l3), (4, .int l4)]) G.hx G.hb (dcs_get dec_X12_isSo_1 15 rfl) hl (k := 4) rfl (by rw [e_v16]; rfl) (by decide) rfl (fun ls hl => ?_)
    refine lv_goto (tgt := 91) G.hx G.hb (dcs_get dec_X12_isSo_1 16 rfl) (by decide) ?_
    exact hb0 _ (Option.some.inj hf).symm _ _ _ w (lv_sub hl [1, 2, 3, 4, 0] rfl)
set_option maxRecDepth 100000 in
set_option maxHeartbeats 4000000 in
theorem H_X12_isSo_91 {r0 : Int32} {σ0 : hSt} (a0 : Nat) (l1 : Int32) (l3 : Int32) (l4 : Int32) (G : Gx p m c cX12_isSo 7 s args RX12 D ay NM ad (aN NM ad)) (hm : meth.sig.returnType = (some .boolean) ∧ meth.locks = false) (ok_a0 : okr kM NM 12 a0 = true)  : ∀ (k : Nat) (v : Int32 × hSt), lp (S_X12_isSo_91 a0 l1 l3 l4) k v = some (r0, σ0) → ∀ (H : Heap) (locs : List Loc) (ls : Array Slot), Wd D ay kM NM ad (aN NM ad) s v.2 H locs → lv_has ls 7 [(0, .ref (ad a0)), (1, .int l1), (3, .int l3), (4, .int l4), (5, .int v.1)] → W p l e (rmK 6 147) s m args below meth c H locs 0 0 (MQ below (cI D ay kM NM ad r0 σ0) args s 0 0 (aN NM ad)) (F0 m 91 ls []) := by
  intro k
  induction k with
  | zero => intro v hf; cases hf
  | succ k ih =>
    intro v hf H locs ls w hl
    obtain ⟨o1, h1, h2, h3⟩ := lp_some hf
    exact B_X12_isSo_91b a0 l1 l3 l4 v.1 v.2 G hm ok_a0 h1  (fun v' e => ih v' (h2 v' e)) (fun x e => h3 x e) w hl
set_option maxRecDepth 100000 in
set_option maxHeartbeats 4000000 in
theorem B_X12_isSo_91 {H : Heap} {locs : List Loc} {ls : Array Slot} {r0 : Int32} {σ0 : hSt} (a0 : Nat) (l1 : Int32) (l3 : Int32) (l4 : Int32) (l5 : Int32) (σ : hSt) (G : Gx p m c cX12_isSo 7 s args RX12 D ay NM ad (aN NM ad)) (hm : meth.sig.returnType = (some .boolean) ∧ meth.locks = false) (ok_a0 : okr kM NM 12 a0 = true) (hf : F_X12_isSo_91 a0 l1 l3 l4 l5 σ = some (r0, σ0))  (w : Wd D ay kM NM ad (aN NM ad) s σ H locs) (hl : lv_has ls 7 [(0, .ref (ad a0)), (1, .int l1), (3, .int l3), (4, .int l4), (5, .int l5)]) : W p l e (rmK 6 147) s m args below meth c H locs 0 0 (MQ below (cI D ay kM NM ad r0 σ0) args s 0 0 (aN NM ad)) (F0 m 91 ls []) := by
  unfold F_X12_isSo_91 at hf
  exact H_X12_isSo_91 a0 l1 l3 l4  G hm ok_a0  fuel (l5, σ) hf _ _ _ w hl
set_option maxRecDepth 100000 in
set_option maxHeartbeats 4000000 in
theorem B_X12_isSo_44b {H : Heap} {locs : List Loc} {ls : Array Slot} {r0 : Int32} {σ0 : hSt} {o : (Int32 × Int32) ⊕ (Int32 × hSt)} (a0 : Nat) (l1 : Int32) (l3 : Int32) (l4 : Int32) (l5 : Int32) (σ : hSt) (G : Gx p m c cX12_isSo 7 s args RX12 D ay NM ad (aN NM ad)) (hm : meth.sig.returnType = (some .boolean) ∧ meth.locks = false) (ok_a0 : okr kM NM 12 a0 = true) (hf : F_X12_isSo_44b a0 l1 l3 l4 l5 σ = some o) (hb0 : ∀ (v : Int32 × Int32), o = .inl v → ∀ (H : Heap) (locs : List Loc) (ls : Array Slot), Wd D ay kM NM ad (aN NM ad) s σ H locs → lv_has ls 7 [(0, .ref (ad a0)), (1, .int l1), (3, .int l3), (4, .int v.1), (5, .int v.2)] → W p l e (rmK 6 147) s m args below meth c H locs 0 0 (MQ below (cI D ay kM NM ad r0 σ0) args s 0 0 (aN NM ad)) (F0 m 44 ls [])) (hr : ∀ x, o = .inr (x) → x = (r0, σ0)) (w : Wd D ay kM NM ad (aN NM ad) s σ H locs) (hl : lv_has ls 7 [(0, .ref (ad a0)), (1, .int l1), (3, .int l3), (4, .int l4), (5, .int l5)]) : W p l e (rmK 6 147) s m args below meth c H locs 0 0 (MQ below (cI D ay kM NM ad r0 σ0) args s 0 0 (aN NM ad)) (F0 m 44 ls []) := by
  have k_a0 := okr_in ok_a0
  unfold F_X12_isSo_44b at hf
  refine lv_iload G.hx G.hb (dcs_get dec_X12_isSo_0 26 rfl) (lv_at hl 4 rfl) ?_
  refine lv_iload_n G.hx G.hb (dcs_get dec_X12_isSo_0 27 rfl) rfl (lv_at hl 2 rfl) ?_
  refine lv_icmp_ge (tgt := 88) G.hx G.hb (dcs_get dec_X12_isSo_0 28 rfl) (by decide) (fun hc => ?_) (fun hc => ?_)
  · rw [if_pos hc] at hf
    refine lv_iconst (v := (0 : Int32)) G.hx G.hb (dcs_get dec_X12_isSo_1 8 rfl) (by decide) ?_
    refine lv_istore (lv' := [(5, .int (0 : Int32)), (0, .ref (ad a0)), (1, .int l1), (3, .int l3), (4, .int l4)]) G.hx G.hb (dcs_get dec_X12_isSo_1 9 rfl) hl (by decide) rfl (fun ls hl => ?_)
    obtain ⟨x9, h9, e9⟩ := map_some_inv hf
    subst e9
    have e8 := hr _ rfl
    rw [e8] at h9
    exact B_X12_isSo_91 a0 l1 l3 l4 (0 : Int32) σ G hm ok_a0 h9 w (lv_sub hl [1, 2, 3, 4, 0] rfl)
  · rw [if_neg hc] at hf
    refine lv_aload_n G.hx G.hb (dcs_get dec_X12_isSo_0 29 rfl) rfl (lv_at hl 0 rfl) ?_
    obtain ⟨z17, e_z17, ok_z17, hf⟩ := cR_some hf
    have k_z17 := okr_in ok_z17
    refine r_getr (k := 65) cls12 fi_12_65.1 fi_12_65.2 q_1073 G w k_a0.1 k_a0.2 e_z17 (dcs_get dec_X12_isSo_0 30 rfl) ?_
    refine lv_iload G.hx G.hb (dcs_get dec_X12_isSo_0 31 rfl) (lv_at hl 4 rfl) ?_
    obtain ⟨h18, hf⟩ := cG_some hf
    refine r_iald G w k_z17.1 k_z17.2 h18 (dcs_get dec_X12_isSo_0 32 rfl) ?_
    refine lv_iload_n G.hx G.hb (dcs_get dec_X12_isSo_0 33 rfl) rfl (lv_at hl 1 rfl) ?_
    refine lv_icmp_ne (tgt := 82) G.hx G.hb (dcs_get dec_X12_isSo_0 34 rfl) (by decide) (fun hc => ?_) (fun hc => ?_)
    · rw [if_neg hc] at hf
      exact B_X12_isSo_82 a0 l1 l3 l4 l5 σ G hm ok_a0 hf hb0 hr w (lv_sub hl [0, 1, 2, 3, 4] rfl)
    · rw [if_pos hc] at hf
      refine lv_aload_n G.hx G.hb (dcs_get dec_X12_isSo_0 35 rfl) rfl (lv_at hl 0 rfl) ?_
      obtain ⟨z19, e_z19, ok_z19, hf⟩ := cR_some hf
      have k_z19 := okr_in ok_z19
      refine r_getr (k := 66) cls12 fi_12_66.1 fi_12_66.2 q_1074 G w k_a0.1 k_a0.2 e_z19 (dcs_get dec_X12_isSo_0 36 rfl) ?_
      refine lv_iload G.hx G.hb (dcs_get dec_X12_isSo_0 37 rfl) (lv_at hl 4 rfl) ?_
      obtain ⟨h20, hf⟩ := cG_some hf
      refine r_iald G w k_z19.1 k_z19.2 h20 (dcs_get dec_X12_isSo_0 38 rfl) ?_
      refine lv_iload G.hx G.hb (dcs_get dec_X12_isSo_0 39 rfl) (lv_at hl 3 rfl) ?_
      refine lv_icmp_le (tgt := 82) G.hx G.hb (dcs_get dec_X12_isSo_1 0 rfl) (by decide) (fun hc => ?_) (fun hc => ?_)
      · rw [if_pos hc] at hf
        exact B_X12_isSo_82 a0 l1 l3 l4 l5 σ G hm ok_a0 hf hb0 hr w (lv_sub hl [0, 1, 2, 3, 4] rfl)
      · rw [if_neg hc] at hf
        refine lv_aload_n G.hx G.hb (dcs_get dec_X12_isSo_1 1 rfl) rfl (lv_at hl 0 rfl) ?_
        obtain ⟨z21, e_z21, ok_z21, hf⟩ := cR_some hf
        have k_z21 := okr_in ok_z21
        refine r_getr (k := 66) cls12 fi_12_66.1 fi_12_66.2 q_1074 G w k_a0.1 k_a0.2 e_z21 (dcs_get dec_X12_isSo_1 2 rfl) ?_
        refine lv_iload G.hx G.hb (dcs_get dec_X12_isSo_1 3 rfl) (lv_at hl 4 rfl) ?_
        obtain ⟨h22, hf⟩ := cG_some hf
        refine r_iald G w k_z21.1 k_z21.2 h22 (dcs_get dec_X12_isSo_1 4 rfl) ?_
        obtain ⟨v23, e_v23, hf⟩ := cL_some hf
        refine r_topi e_v23 ?_
        refine lv_istore (lv' := [(4, .int v23), (0, .ref (ad a0)), (1, .int l1), (3, .int l3), (5, .int l5)]) G.hx G.hb (dcs_get dec_X12_isSo_1 5 rfl) hl (by decide) rfl (fun ls hl => ?_)
        exact B_X12_isSo_82 a0 l1 l3 v23 l5 σ G hm ok_a0 hf hb0 hr w (lv_sub hl [1, 2, 3, 0, 4] rfl)
set_option maxRecDepth 100000 in
set_option maxHeartbeats 4000000 in
theorem H_X12_isSo_44 {r0 : Int32} {σ0 : hSt} (a0 : Nat) (l1 : Int32) (l3 : Int32) (σ : hSt) (G : Gx p m c cX12_isSo 7 s args RX12 D ay NM ad (aN NM ad)) (hm : meth.sig.returnType = (some .boolean) ∧ meth.locks = false) (ok_a0 : okr kM NM 12 a0 = true)  : ∀ (k : Nat) (v : Int32 × Int32), lp (S_X12_isSo_44 a0 l1 l3 σ) k v = some (r0, σ0) → ∀ (H : Heap) (locs : List Loc) (ls : Array Slot), Wd D ay kM NM ad (aN NM ad) s σ H locs → lv_has ls 7 [(0, .ref (ad a0)), (1, .int l1), (3, .int l3), (4, .int v.1), (5, .int v.2)] → W p l e (rmK 6 147) s m args below meth c H locs 0 0 (MQ below (cI D ay kM NM ad r0 σ0) args s 0 0 (aN NM ad)) (F0 m 44 ls []) := by
  intro k
  induction k with
  | zero => intro v hf; cases hf
  | succ k ih =>
    intro v hf H locs ls w hl
    obtain ⟨o1, h1, h2, h3⟩ := lp_some hf
    exact B_X12_isSo_44b a0 l1 l3 v.1 v.2 σ G hm ok_a0 h1  (fun v' e => ih v' (h2 v' e)) (fun x e => h3 x e) w hl
set_option maxRecDepth 100000 in
set_option maxHeartbeats 4000000 in
theorem B_X12_isSo_44 {H : Heap} {locs : List Loc} {ls : Array Slot} {r0 : Int32} {σ0 : hSt} (a0 : Nat) (l1 : Int32) (l3 : Int32) (l4 : Int32) (l5 : Int32) (σ : hSt) (G : Gx p m c cX12_isSo 7 s args RX12 D ay NM ad (aN NM ad)) (hm : meth.sig.returnType = (some .boolean) ∧ meth.locks = false) (ok_a0 : okr kM NM 12 a0 = true) (hf : F_X12_isSo_44 a0 l1 l3 l4 l5 σ = some (r0, σ0))  (w : Wd D ay kM NM ad (aN NM ad) s σ H locs) (hl : lv_has ls 7 [(0, .ref (ad a0)), (1, .int l1), (3, .int l3), (4, .int l4), (5, .int l5)]) : W p l e (rmK 6 147) s m args below meth c H locs 0 0 (MQ below (cI D ay kM NM ad r0 σ0) args s 0 0 (aN NM ad)) (F0 m 44 ls []) := by
  unfold F_X12_isSo_44 at hf
  exact H_X12_isSo_44 a0 l1 l3 σ G hm ok_a0  fuel (l4, l5) hf _ _ _ w hl
set_option maxRecDepth 100000 in
set_option maxHeartbeats 4000000 in
theorem B_X12_isSo_7b {H : Heap} {locs : List Loc} {ls : Array Slot} {r0 : Int32} {σ0 : hSt} {o : (Int32 × hSt) ⊕ (Int32 × hSt)} (a0 : Nat) (l1 : Int32) (l2 : Int32) (l3 : Int32) (l4 : Int32) (σ : hSt) (G : Gx p m c cX12_isSo 7 s args RX12 D ay NM ad (aN NM ad)) (hm : meth.sig.returnType = (some .boolean) ∧ meth.locks = false) (ok_a0 : okr kM NM 12 a0 = true) (hf : F_X12_isSo_7b a0 l1 l2 l3 l4 σ = some o) (hb0 : ∀ (v : Int32 × hSt), o = .inl v → ∀ (H : Heap) (locs : List Loc) (ls : Array Slot), Wd D ay kM NM ad (aN NM ad) s v.2 H locs → lv_has ls 7 [(0, .ref (ad a0)), (1, .int l1), (2, .int l2), (3, .int l3), (4, .int v.1)] → W p l e (rmK 6 147) s m args below meth c H locs 0 0 (MQ below (cI D ay kM NM ad r0 σ0) args s 0 0 (aN NM ad)) (F0 m 7 ls [])) (hr : ∀ x, o = .inr (x) → x = (r0, σ0)) (w : Wd D ay kM NM ad (aN NM ad) s σ H locs) (hl : lv_has ls 7 [(0, .ref (ad a0)), (1, .int l1), (2, .int l2), (3, .int l3), (4, .int l4)]) : W p l e (rmK 6 147) s m args below meth c H locs 0 0 (MQ below (cI D ay kM NM ad r0 σ0) args s 0 0 (aN NM ad)) (F0 m 7 ls []) := by
  have k_a0 := okr_in ok_a0
  unfold F_X12_isSo_7b at hf
  refine lv_iload G.hx G.hb (dcs_get dec_X12_isSo_0 4 rfl) (lv_at hl 4 rfl) ?_
  refine lv_bipush (v := (6 : Int32)) G.hx G.hb (dcs_get dec_X12_isSo_0 5 rfl) (by decide) ?_
  refine lv_icmp_ge (tgt := 32) G.hx G.hb (dcs_get dec_X12_isSo_0 6 rfl) (by decide) (fun hc => ?_) (fun hc => ?_)
  · rw [if_pos hc] at hf
    refine lv_aload_n G.hx G.hb (dcs_get dec_X12_isSo_0 18 rfl) rfl (lv_at hl 0 rfl) ?_
    refine lv_iload_n G.hx G.hb (dcs_get dec_X12_isSo_0 19 rfl) rfl (lv_at hl 2 rfl) ?_
    refine lv_iload_n G.hx G.hb (dcs_get dec_X12_isSo_0 20 rfl) rfl (lv_at hl 1 rfl) ?_
    obtain ⟨σ25, h24, hf⟩ := cB_some hf
    refine a_v (k_V (As := [.int l2, .int l1]) (rest := []) cls12 lb_X12_knowsFromBegin lv_X12_knowsFromBegin q_1001 (C_X12_knowsFromBegin G.2.2.1 a0 l2 l1 σ h24 ok_a0) ⟨(Nat.le_of_ble_eq_true rfl), (Nat.le_of_ble_eq_true rfl)⟩ G w k_a0.1 k_a0.2 rfl rfl hl.1 (Nat.le_of_ble_eq_true rfl) (dcs_get dec_X12_isSo_0 21 rfl) ⟨Nat.le_refl _, Nat.le_refl _⟩) G w (fun H locs w => ?_)
    refine lv_iconst (v := (-1 : Int32)) G.hx G.hb (dcs_get dec_X12_isSo_0 22 rfl) (by decide) ?_
    refine lv_istore (lv' := [(4, .int (-1 : Int32)), (0, .ref (ad a0)), (1, .int l1), (2, .int l2), (3, .int l3)]) G.hx G.hb (dcs_get dec_X12_isSo_0 23 rfl) hl (by decide) rfl (fun ls hl => ?_)
    refine lv_iconst (v := (0 : Int32)) G.hx G.hb (dcs_get dec_X12_isSo_0 24 rfl) (by decide) ?_
    refine lv_istore (lv' := [(5, .int (0 : Int32)), (4, .int (-1 : Int32)), (0, .ref (ad a0)), (1, .int l1), (2, .int l2), (3, .int l3)]) G.hx G.hb (dcs_get dec_X12_isSo_0 25 rfl) hl (by decide) rfl (fun ls hl => ?_)
    obtain ⟨x9, h9, e9⟩ := map_some_inv hf
    subst e9
    have e8 := hr _ rfl
    rw [e8] at h9
    exact B_X12_isSo_44 a0 l1 l3 (-1 : Int32) (0 : Int32) σ25 G hm ok_a0 h9 w (lv_sub hl [2, 3, 5, 1, 0] rfl)
  · rw [if_neg hc] at hf
    refine lv_aload_n G.hx G.hb (dcs_get dec_X12_isSo_0 7 rfl) rfl (lv_at hl 0 rfl) ?_
    obtain ⟨z26, e_z26, ok_z26, hf⟩ := cR_some hf
    have k_z26 := okr_in ok_z26
    refine r_getr (k := 54) cls12 fi_12_54.1 fi_12_54.2 q_1062 G w k_a0.1 k_a0.2 e_z26 (dcs_get dec_X12_isSo_0 8 rfl) ?_
    refine lv_iconst (v := (4 : Int32)) G.hx G.hb (dcs_get dec_X12_isSo_0 9 rfl) (by decide) ?_
    refine lv_iload G.hx G.hb (dcs_get dec_X12_isSo_0 10 rfl) (lv_at hl 4 rfl) ?_
    refine lv_imul G.hx G.hb (dcs_get dec_X12_isSo_0 11 rfl) ?_
    refine lv_iload_n G.hx G.hb (dcs_get dec_X12_isSo_0 12 rfl) rfl (lv_at hl 1 rfl) ?_
    refine lv_iadd G.hx G.hb (dcs_get dec_X12_isSo_0 13 rfl) ?_
    refine lv_iconst (v := (0 : Int32)) G.hx G.hb (dcs_get dec_X12_isSo_0 14 rfl) (by decide) ?_
    obtain ⟨h27, hf⟩ := cG_some hf
    obtain ⟨σ28, e_σ28, hf⟩ := cL_some hf
    refine r_iast G w k_z26.1 k_z26.2 h27 (dcs_get dec_X12_isSo_0 15 rfl) (fun H locs w => ?_)
    have w := Wd.nm e_σ28 w
    obtain ⟨v29, e_v29, hf⟩ := cL_some hf
    refine lv_iinc (v := v29) (lv' := [(4, .int v29), (0, .ref (ad a0)), (1, .int l1), (2, .int l2), (3, .int l3)]) G.hx G.hb (dcs_get dec_X12_isSo_0 16 rfl) hl (k := 4) rfl (by rw [e_v29]; rfl) (by decide) rfl (fun ls hl => ?_)
    refine lv_goto (tgt := 7) G.hx G.hb (dcs_get dec_X12_isSo_0 17 rfl) (by decide) ?_
    exact hb0 _ (Option.some.inj hf).symm _ _ _ w (lv_sub hl [1, 2, 3, 4, 0] rfl)
set_option maxRecDepth 100000 in
set_option maxHeartbeats 4000000 in
theorem H_X12_isSo_7 {r0 : Int32} {σ0 : hSt} (a0 : Nat) (l1 : Int32) (l2 : Int32) (l3 : Int32) (G : Gx p m c cX12_isSo 7 s args RX12 D ay NM ad (aN NM ad)) (hm : meth.sig.returnType = (some .boolean) ∧ meth.locks = false) (ok_a0 : okr kM NM 12 a0 = true)  : ∀ (k : Nat) (v : Int32 × hSt), lp (S_X12_isSo_7 a0 l1 l2 l3) k v = some (r0, σ0) → ∀ (H : Heap) (locs : List Loc) (ls : Array Slot), Wd D ay kM NM ad (aN NM ad) s v.2 H locs → lv_has ls 7 [(0, .ref (ad a0)), (1, .int l1), (2, .int l2), (3, .int l3), (4, .int v.1)] → W p l e (rmK 6 147) s m args below meth c H locs 0 0 (MQ below (cI D ay kM NM ad r0 σ0) args s 0 0 (aN NM ad)) (F0 m 7 ls []) := by
  intro k
  induction k with
  | zero => intro v hf; cases hf
  | succ k ih =>
    intro v hf H locs ls w hl
    obtain ⟨o1, h1, h2, h3⟩ := lp_some hf
    exact B_X12_isSo_7b a0 l1 l2 l3 v.1 v.2 G hm ok_a0 h1  (fun v' e => ih v' (h2 v' e)) (fun x e => h3 x e) w hl
set_option maxRecDepth 100000 in
set_option maxHeartbeats 4000000 in
theorem B_X12_isSo_7 {H : Heap} {locs : List Loc} {ls : Array Slot} {r0 : Int32} {σ0 : hSt} (a0 : Nat) (l1 : Int32) (l2 : Int32) (l3 : Int32) (l4 : Int32) (σ : hSt) (G : Gx p m c cX12_isSo 7 s args RX12 D ay NM ad (aN NM ad)) (hm : meth.sig.returnType = (some .boolean) ∧ meth.locks = false) (ok_a0 : okr kM NM 12 a0 = true) (hf : F_X12_isSo_7 a0 l1 l2 l3 l4 σ = some (r0, σ0))  (w : Wd D ay kM NM ad (aN NM ad) s σ H locs) (hl : lv_has ls 7 [(0, .ref (ad a0)), (1, .int l1), (2, .int l2), (3, .int l3), (4, .int l4)]) : W p l e (rmK 6 147) s m args below meth c H locs 0 0 (MQ below (cI D ay kM NM ad r0 σ0) args s 0 0 (aN NM ad)) (F0 m 7 ls []) := by
  unfold F_X12_isSo_7 at hf
  exact H_X12_isSo_7 a0 l1 l2 l3  G hm ok_a0  fuel (l4, σ) hf _ _ _ w hl
set_option maxRecDepth 100000 in
set_option maxHeartbeats 4000000 in
theorem B_X12_isSo_0 {H : Heap} {locs : List Loc} {ls : Array Slot} {r0 : Int32} {σ0 : hSt} (a0 : Nat) (l1 : Int32) (l2 : Int32) (l3 : Int32) (σ : hSt) (G : Gx p m c cX12_isSo 7 s args RX12 D ay NM ad (aN NM ad)) (hm : meth.sig.returnType = (some .boolean) ∧ meth.locks = false) (ok_a0 : okr kM NM 12 a0 = true) (hf : F_X12_isSo a0 l1 l2 l3 σ = some (r0, σ0))  (w : Wd D ay kM NM ad (aN NM ad) s σ H locs) (hl : lv_has ls 7 [(0, .ref (ad a0)), (1, .int l1), (2, .int l2), (3, .int l3)]) : W p l e (rmK 6 147) s m args below meth c H locs 0 0 (MQ below (cI D ay kM NM ad r0 σ0) args s 0 0 (aN NM ad)) (F0 m 0 ls []) := by
  have k_a0 := okr_in ok_a0
  unfold F_X12_isSo at hf
  refine lv_aload_n G.hx G.hb (dcs_get dec_X12_isSo_0 0 rfl) rfl (lv_at hl 0 rfl) ?_
  obtain ⟨σ31, h30, hf⟩ := cB_some hf
  refine a_v (k_V (As := []) (rest := []) cls12 lb_X12_begins lv_X12_begins q_997 (C_X12_begins G.2.2.1 a0 σ h30 ok_a0) ⟨(Nat.le_of_ble_eq_true rfl), (Nat.le_of_ble_eq_true rfl)⟩ G w k_a0.1 k_a0.2 rfl rfl hl.1 (Nat.le_of_ble_eq_true rfl) (dcs_get dec_X12_isSo_0 1 rfl) ⟨Nat.le_refl _, Nat.le_refl _⟩) G w (fun H locs w => ?_)
  refine lv_iconst (v := (0 : Int32)) G.hx G.hb (dcs_get dec_X12_isSo_0 2 rfl) (by decide) ?_
  refine lv_istore (lv' := [(4, .int (0 : Int32)), (0, .ref (ad a0)), (1, .int l1), (2, .int l2), (3, .int l3)]) G.hx G.hb (dcs_get dec_X12_isSo_0 3 rfl) hl (by decide) rfl (fun ls hl => ?_)
  exact B_X12_isSo_7 a0 l1 l2 l3 (0 : Int32) σ31 G hm ok_a0 hf  w (lv_sub hl [1, 2, 3, 4, 0] rfl)
end
set_option maxRecDepth 100000 in
set_option maxHeartbeats 4000000 in
theorem C_X12_isSo {l : Launch} {D : va_G} {ay : Nat → ClassId} {ad : Nat → Nat} (hi : hInj NM ad) (a0 : Nat) (l1 : Int32) (l2 : Int32) (l3 : Int32) (σ : hSt) {r0 : Int32} {σ0 : hSt} (hf : F_X12_isSo a0 l1 l2 l3 σ = some (r0, σ0)) (ok_a0 : okr kM NM 12 a0 = true) : hM l D ay kM NM ad yX12_isSo cX12_isSo 7 ((some .boolean)) (rmK 6 147) [.ref (ad a0), .int l1, .int l2, .int l3] σ (cI D ay kM NM ad r0 σ0) := by
  refine hM_in (by decide) hi (Nat.le_of_ble_eq_true rfl) ?_
  intro p e s m below meth c G hm w ls hl
  exact B_X12_isSo_0 a0 l1 l2 l3 σ G hm ok_a0 hf w (lv_sub hl [0, 1, 2, 3] rfl)

/-! HillDrumsModel.beginners(II)I -/
def DL_X12_beginners_0 : List (Nat × Instr × Nat) := [(0, .aload_n 0, 1), (1, .iload_n 1, 1), (2, .invokevirtual 377, 3), (5, .ifCond .eq 15, 3), (8, .iload_n 2, 1), (9, .iconst 0, 1), (10, .aload_n 0, 1), (11, .getfield 257, 3), (14, .invokestatic 323, 3), (17, .ifCond .ne 5, 3), (20, .iconst (-1), 1), (21, .ireturn, 1), (22, .iconst 0, 1), (23, .istore_n 3, 1), (24, .iconst 0, 1), (25, .istore 4, 2), (27, .iload 4, 2), (29, .aload_n 0, 1), (30, .getfield 49, 3), (33, .aload_n 0, 1), (34, .getfield 236, 3), (37, .iaload, 1), (38, .if_icmp .ge 27, 3), (41, .aload_n 0, 1), (42, .iload_n 1, 1), (43, .iload 4, 2), (45, .iload_n 2, 1), (46, .invokevirtual 436, 3), (49, .ifCond .eq 10, 3), (52, .iload_n 3, 1), (53, .iconst 1, 1), (54, .iload 4, 2), (56, .ishl, 1), (57, .ior, 1), (58, .istore_n 3, 1), (59, .iinc 4 1, 3), (62, .goto (-35), 3), (65, .iload_n 3, 1), (66, .ireturn, 1)]
set_option maxRecDepth 100000 in
theorem dec_X12_beginners_0 : dcs cX12_beginners DL_X12_beginners_0 = true := by decide +kernel
theorem lb_X12_beginners : lkB yX12_beginners cX12_beginners 5 ((some .int)) 2 := ⟨q_1558, q_14, ⟨by decide, by decide⟩, by decide +kernel⟩
theorem lv_X12_beginners : lkV yX12_beginners := ⟨q_1556, q_1557⟩
def F_X12_beginners_20  (σ : hSt) : Option (Int32 × hSt) :=
some (((-1 : Int32), σ))
def F_X12_beginners_59 (a0 : Nat) (l1 : Int32) (l2 : Int32) (l3 : Int32) (l4 : Int32) (σ : hSt) : Option ((Int32 × Int32 × hSt) ⊕ (Int32 × hSt)) :=
cL (l4 + (1 : Int32)) fun v1 =>
some (.inl (l3, v1, σ))
def F_X12_beginners_27b (a0 : Nat) (l1 : Int32) (l2 : Int32) (l3 : Int32) (l4 : Int32) (σ : hSt) : Option ((Int32 × Int32 × hSt) ⊕ (Int32 × hSt)) :=
cR (σ.2.2 a0 24) (okr kM NM 101) fun z2 =>
cG (inb (σ.1 a0 18) (kM z2).2) <|
if (σ.1 z2 (σ.1 a0 18).toNatClampNeg) ≤ l4 then (
some (.inr ((l3, σ)))) else (
cC (F_X12_isSo a0 l1 l4 l2 σ) fun v5 σ6 =>
if v5 = 0 then (
F_X12_beginners_59 a0 l1 l2 l3 l4 σ6) else (
cL (l3 ||| ((1 : Int32) <<< (l4 &&& 31))) fun v7 =>
F_X12_beginners_59 a0 l1 l2 v7 l4 σ6))
def S_X12_beginners_27 (a0 : Nat) (l1 : Int32) (l2 : Int32) (v : Int32 × Int32 × hSt) : Option ((Int32 × Int32 × hSt) ⊕ (Int32 × hSt)) := F_X12_beginners_27b a0 l1 l2 v.1 v.2.1 v.2.2
def F_X12_beginners_27 (a0 : Nat) (l1 : Int32) (l2 : Int32) (l3 : Int32) (l4 : Int32) (σ : hSt) : Option (Int32 × hSt) := lp (S_X12_beginners_27 a0 l1 l2) fuel (l3, l4, σ)
def F_X12_beginners (a0 : Nat) (l1 : Int32) (l2 : Int32) (σ : hSt) : Option (Int32 × hSt) :=
(F_X12_isNews a0 l1 σ).bind fun v9 =>
if v9 = 0 then (
F_X12_beginners_20  σ) else (
(F_X12_in l2 (0 : Int32) (σ.1 a0 63) σ).bind fun v11 =>
if v11 = 0 then (
F_X12_beginners_20  σ) else (
F_X12_beginners_27 a0 l1 l2 (0 : Int32) (0 : Int32) σ))
section
variable {p : Program} {l : Launch} {e : Env} {s : State} {m : MethodId} {args : Array Value} {below : List Frame} {meth : Method} {c : Code} {D : va_G} {ay : Nat → ClassId} {ad : Nat → Nat}
set_option maxRecDepth 100000 in
set_option maxHeartbeats 4000000 in
theorem B_X12_beginners_20 {H : Heap} {locs : List Loc} {ls : Array Slot} {r0 : Int32} {σ0 : hSt}  (σ : hSt) (G : Gx p m c cX12_beginners 5 s args RX12 D ay NM ad (aN NM ad)) (hm : meth.sig.returnType = (some .int) ∧ meth.locks = false)  (hf : F_X12_beginners_20  σ = some (r0, σ0))  (w : Wd D ay kM NM ad (aN NM ad) s σ H locs) (hl : lv_has ls 5 []) : W p l e (rmK 7 173) s m args below meth c H locs 0 0 (MQ below (cI D ay kM NM ad r0 σ0) args s 0 0 (aN NM ad)) (F0 m 20 ls []) := by
  unfold F_X12_beginners_20 at hf
  refine lv_iconst (v := (-1 : Int32)) G.hx G.hb (dcs_get dec_X12_beginners_0 10 rfl) (by decide) ?_
  have e9 := Option.some.inj hf
  exact r_iret G w hm (congrArg Prod.fst e9) (congrArg Prod.snd e9) (dcs_get dec_X12_beginners_0 11 rfl)
set_option maxRecDepth 100000 in
set_option maxHeartbeats 4000000 in
theorem B_X12_beginners_59 {H : Heap} {locs : List Loc} {ls : Array Slot} {r0 : Int32} {σ0 : hSt} {o : (Int32 × Int32 × hSt) ⊕ (Int32 × hSt)} (a0 : Nat) (l1 : Int32) (l2 : Int32) (l3 : Int32) (l4 : Int32) (σ : hSt) (G : Gx p m c cX12_beginners 5 s args RX12 D ay NM ad (aN NM ad)) (hm : meth.sig.returnType = (some .int) ∧ meth.locks = false) (ok_a0 : okr kM NM 12 a0 = true) (hf : F_X12_beginners_59 a0 l1 l2 l3 l4 σ = some o) (hb0 : ∀ (v : Int32 × Int32 × hSt), o = .inl v → ∀ (H : Heap) (locs : List Loc) (ls : Array Slot), Wd D ay kM NM ad (aN NM ad) s v.2.2 H locs → lv_has ls 5 [(0, .ref (ad a0)), (1, .int l1), (2, .int l2), (3, .int v.1), (4, .int v.2.1)] → W p l e (rmK 7 173) s m args below meth c H locs 0 0 (MQ below (cI D ay kM NM ad r0 σ0) args s 0 0 (aN NM ad)) (F0 m 27 ls [])) (hr : ∀ x, o = .inr (x) → x = (r0, σ0)) (w : Wd D ay kM NM ad (aN NM ad) s σ H locs) (hl : lv_has ls 5 [(0, .ref (ad a0)), (1, .int l1), (2, .int l2), (3, .int l3), (4, .int l4)]) : W p l e (rmK 7 173) s m args below meth c H locs 0 0 (MQ below (cI D ay kM NM ad r0 σ0) args s 0 0 (aN NM ad)) (F0 m 59 ls []) := by
  have k_a0 := okr_in ok_a0
  unfold F_X12_beginners_59 at hf
  obtain ⟨v1, e_v1, hf⟩ := cL_some hf
  refine lv_iinc (v := v1) (lv' := [(4, .int v1), (0, .ref (ad a0)), (1, .int l1), (2, .int l2), (3, .int l3)]) G.hx G.hb (dcs_get dec_X12_beginners_0 35 rfl) hl (k := 4) rfl (by rw [e_v1]; rfl) (by decide) rfl (fun ls hl => ?_)
  refine lv_goto (tgt := 27) G.hx G.hb (dcs_get dec_X12_beginners_0 36 rfl) (by decide) ?_
  exact hb0 _ (Option.some.inj hf).symm _ _ _ w (lv_sub hl [1, 2, 3, 4, 0] rfl)
set_option maxRecDepth 100000 in
set_option maxHeartbeats 4000000 in
theorem B_X12_beginners_27b {H : Heap} {locs : List Loc} {ls : Array Slot} {r0 : Int32} {σ0 : hSt} {o : (Int32 × Int32 × hSt) ⊕ (Int32 × hSt)} (a0 : Nat) (l1 : Int32) (l2 : Int32) (l3 : Int32) (l4 : Int32) (σ : hSt) (G : Gx p m c cX12_beginners 5 s args RX12 D ay NM ad (aN NM ad)) (hm : meth.sig.returnType = (some .int) ∧ meth.locks = false) (ok_a0 : okr kM NM 12 a0 = true) (hf : F_X12_beginners_27b a0 l1 l2 l3 l4 σ = some o) (hb0 : ∀ (v : Int32 × Int32 × hSt), o = .inl v → ∀ (H : Heap) (locs : List Loc) (ls : Array Slot), Wd D ay kM NM ad (aN NM ad) s v.2.2 H locs → lv_has ls 5 [(0, .ref (ad a0)), (1, .int l1), (2, .int l2), (3, .int v.1), (4, .int v.2.1)] → W p l e (rmK 7 173) s m args below meth c H locs 0 0 (MQ below (cI D ay kM NM ad r0 σ0) args s 0 0 (aN NM ad)) (F0 m 27 ls [])) (hr : ∀ x, o = .inr (x) → x = (r0, σ0)) (w : Wd D ay kM NM ad (aN NM ad) s σ H locs) (hl : lv_has ls 5 [(0, .ref (ad a0)), (1, .int l1), (2, .int l2), (3, .int l3), (4, .int l4)]) : W p l e (rmK 7 173) s m args below meth c H locs 0 0 (MQ below (cI D ay kM NM ad r0 σ0) args s 0 0 (aN NM ad)) (F0 m 27 ls []) := by
  have k_a0 := okr_in ok_a0
  unfold F_X12_beginners_27b at hf
  refine lv_iload G.hx G.hb (dcs_get dec_X12_beginners_0 16 rfl) (lv_at hl 4 rfl) ?_
  refine lv_aload_n G.hx G.hb (dcs_get dec_X12_beginners_0 17 rfl) rfl (lv_at hl 0 rfl) ?_
  obtain ⟨z2, e_z2, ok_z2, hf⟩ := cR_some hf
  have k_z2 := okr_in ok_z2
  refine r_getr (k := 24) cls12 fi_12_24.1 fi_12_24.2 q_1032 G w k_a0.1 k_a0.2 e_z2 (dcs_get dec_X12_beginners_0 18 rfl) ?_
  refine lv_aload_n G.hx G.hb (dcs_get dec_X12_beginners_0 19 rfl) rfl (lv_at hl 0 rfl) ?_
  refine r_geti (k := 18) cls12 fi_12_18.1 fi_12_18.2 q_1026 G w k_a0.1 k_a0.2 (dcs_get dec_X12_beginners_0 20 rfl) ?_
  obtain ⟨h3, hf⟩ := cG_some hf
  refine r_iald G w k_z2.1 k_z2.2 h3 (dcs_get dec_X12_beginners_0 21 rfl) ?_
  refine lv_icmp_ge (tgt := 65) G.hx G.hb (dcs_get dec_X12_beginners_0 22 rfl) (by decide) (fun hc => ?_) (fun hc => ?_)
  · rw [if_pos hc] at hf
    refine lv_iload_n G.hx G.hb (dcs_get dec_X12_beginners_0 37 rfl) rfl (lv_at hl 3 rfl) ?_
    have e9 := hr _ (Option.some.inj hf).symm
    exact r_iret G w hm (congrArg Prod.fst e9) (congrArg Prod.snd e9) (dcs_get dec_X12_beginners_0 38 rfl)
  · rw [if_neg hc] at hf
    refine lv_aload_n G.hx G.hb (dcs_get dec_X12_beginners_0 23 rfl) rfl (lv_at hl 0 rfl) ?_
    refine lv_iload_n G.hx G.hb (dcs_get dec_X12_beginners_0 24 rfl) rfl (lv_at hl 1 rfl) ?_
    refine lv_iload G.hx G.hb (dcs_get dec_X12_beginners_0 25 rfl) (lv_at hl 4 rfl) ?_
    refine lv_iload_n G.hx G.hb (dcs_get dec_X12_beginners_0 26 rfl) rfl (lv_at hl 2 rfl) ?_
    obtain ⟨v5, σ6, h4, hf⟩ := cC_some hf
    refine a_i (k_V (As := [.int l1, .int l4, .int l2]) (rest := []) cls12 lb_X12_isSo lv_X12_isSo q_1559 (C_X12_isSo G.2.2.1 a0 l1 l4 l2 σ h4 ok_a0) ⟨(Nat.le_of_ble_eq_true rfl), (Nat.le_of_ble_eq_true rfl)⟩ G w k_a0.1 k_a0.2 rfl rfl hl.1 (Nat.le_of_ble_eq_true rfl) (dcs_get dec_X12_beginners_0 27 rfl) ⟨Nat.le_refl _, Nat.le_refl _⟩) G w (fun H locs w => ?_)
    refine lv_if_eq (tgt := 59) G.hx G.hb (dcs_get dec_X12_beginners_0 28 rfl) (by decide) (fun hc => ?_) (fun hc => ?_)
    · rw [if_pos hc] at hf
      exact B_X12_beginners_59 a0 l1 l2 l3 l4 σ6 G hm ok_a0 hf hb0 hr w (lv_sub hl [0, 1, 2, 3, 4] rfl)
    · rw [if_neg hc] at hf
      refine lv_iload_n G.hx G.hb (dcs_get dec_X12_beginners_0 29 rfl) rfl (lv_at hl 3 rfl) ?_
      refine lv_iconst (v := (1 : Int32)) G.hx G.hb (dcs_get dec_X12_beginners_0 30 rfl) (by decide) ?_
      refine lv_iload G.hx G.hb (dcs_get dec_X12_beginners_0 31 rfl) (lv_at hl 4 rfl) ?_
      refine lv_ishl G.hx G.hb (dcs_get dec_X12_beginners_0 32 rfl) ?_
      refine lv_ior G.hx G.hb (dcs_get dec_X12_beginners_0 33 rfl) ?_
      obtain ⟨v7, e_v7, hf⟩ := cL_some hf
      refine r_topi e_v7 ?_
      refine lv_istore_n (lv' := [(3, .int v7), (0, .ref (ad a0)), (1, .int l1), (2, .int l2), (4, .int l4)]) G.hx G.hb (dcs_get dec_X12_beginners_0 34 rfl) rfl hl (by decide) rfl (fun ls hl => ?_)
      exact B_X12_beginners_59 a0 l1 l2 v7 l4 σ6 G hm ok_a0 hf hb0 hr w (lv_sub hl [1, 2, 3, 0, 4] rfl)
set_option maxRecDepth 100000 in
set_option maxHeartbeats 4000000 in
theorem H_X12_beginners_27 {r0 : Int32} {σ0 : hSt} (a0 : Nat) (l1 : Int32) (l2 : Int32) (G : Gx p m c cX12_beginners 5 s args RX12 D ay NM ad (aN NM ad)) (hm : meth.sig.returnType = (some .int) ∧ meth.locks = false) (ok_a0 : okr kM NM 12 a0 = true)  : ∀ (k : Nat) (v : Int32 × Int32 × hSt), lp (S_X12_beginners_27 a0 l1 l2) k v = some (r0, σ0) → ∀ (H : Heap) (locs : List Loc) (ls : Array Slot), Wd D ay kM NM ad (aN NM ad) s v.2.2 H locs → lv_has ls 5 [(0, .ref (ad a0)), (1, .int l1), (2, .int l2), (3, .int v.1), (4, .int v.2.1)] → W p l e (rmK 7 173) s m args below meth c H locs 0 0 (MQ below (cI D ay kM NM ad r0 σ0) args s 0 0 (aN NM ad)) (F0 m 27 ls []) := by
  intro k
  induction k with
  | zero => intro v hf; cases hf
  | succ k ih =>
    intro v hf H locs ls w hl
    obtain ⟨o1, h1, h2, h3⟩ := lp_some hf
    exact B_X12_beginners_27b a0 l1 l2 v.1 v.2.1 v.2.2 G hm ok_a0 h1  (fun v' e => ih v' (h2 v' e)) (fun x e => h3 x e) w hl
set_option maxRecDepth 100000 in
set_option maxHeartbeats 4000000 in
theorem B_X12_beginners_27 {H : Heap} {locs : List Loc} {ls : Array Slot} {r0 : Int32} {σ0 : hSt} (a0 : Nat) (l1 : Int32) (l2 : Int32) (l3 : Int32) (l4 : Int32) (σ : hSt) (G : Gx p m c cX12_beginners 5 s args RX12 D ay NM ad (aN NM ad)) (hm : meth.sig.returnType = (some .int) ∧ meth.locks = false) (ok_a0 : okr kM NM 12 a0 = true) (hf : F_X12_beginners_27 a0 l1 l2 l3 l4 σ = some (r0, σ0))  (w : Wd D ay kM NM ad (aN NM ad) s σ H locs) (hl : lv_has ls 5 [(0, .ref (ad a0)), (1, .int l1), (2, .int l2), (3, .int l3), (4, .int l4)]) : W p l e (rmK 7 173) s m args below meth c H locs 0 0 (MQ below (cI D ay kM NM ad r0 σ0) args s 0 0 (aN NM ad)) (F0 m 27 ls []) := by
  unfold F_X12_beginners_27 at hf
  exact H_X12_beginners_27 a0 l1 l2  G hm ok_a0  fuel (l3, l4, σ) hf _ _ _ w hl
set_option maxRecDepth 100000 in
set_option maxHeartbeats 4000000 in
theorem B_X12_beginners_0 {H : Heap} {locs : List Loc} {ls : Array Slot} {r0 : Int32} {σ0 : hSt} (a0 : Nat) (l1 : Int32) (l2 : Int32) (σ : hSt) (G : Gx p m c cX12_beginners 5 s args RX12 D ay NM ad (aN NM ad)) (hm : meth.sig.returnType = (some .int) ∧ meth.locks = false) (ok_a0 : okr kM NM 12 a0 = true) (hf : F_X12_beginners a0 l1 l2 σ = some (r0, σ0))  (w : Wd D ay kM NM ad (aN NM ad) s σ H locs) (hl : lv_has ls 5 [(0, .ref (ad a0)), (1, .int l1), (2, .int l2)]) : W p l e (rmK 7 173) s m args below meth c H locs 0 0 (MQ below (cI D ay kM NM ad r0 σ0) args s 0 0 (aN NM ad)) (F0 m 0 ls []) := by
  have k_a0 := okr_in ok_a0
  unfold F_X12_beginners at hf
  refine lv_aload_n G.hx G.hb (dcs_get dec_X12_beginners_0 0 rfl) rfl (lv_at hl 0 rfl) ?_
  refine lv_iload_n G.hx G.hb (dcs_get dec_X12_beginners_0 1 rfl) rfl (lv_at hl 1 rfl) ?_
  obtain ⟨v9, h8, hf⟩ := cB_some hf
  refine a_i (k_V (As := [.int l1]) (rest := []) cls12 lb_X12_isNews lv_X12_isNews q_1376 (C_X12_isNews G.2.2.1 a0 l1 σ h8 ok_a0) ⟨(Nat.le_of_ble_eq_true rfl), (Nat.le_of_ble_eq_true rfl)⟩ G w k_a0.1 k_a0.2 rfl rfl hl.1 (Nat.le_of_ble_eq_true rfl) (dcs_get dec_X12_beginners_0 2 rfl) ⟨Nat.le_refl _, Nat.le_refl _⟩) G w (fun H locs w => ?_)
  refine lv_if_eq (tgt := 20) G.hx G.hb (dcs_get dec_X12_beginners_0 3 rfl) (by decide) (fun hc => ?_) (fun hc => ?_)
  · rw [if_pos hc] at hf
    exact B_X12_beginners_20  σ G hm  hf  w (lv_sub hl [] rfl)
  · rw [if_neg hc] at hf
    refine lv_iload_n G.hx G.hb (dcs_get dec_X12_beginners_0 4 rfl) rfl (lv_at hl 2 rfl) ?_
    refine lv_iconst (v := (0 : Int32)) G.hx G.hb (dcs_get dec_X12_beginners_0 5 rfl) (by decide) ?_
    refine lv_aload_n G.hx G.hb (dcs_get dec_X12_beginners_0 6 rfl) rfl (lv_at hl 0 rfl) ?_
    refine r_geti (k := 63) cls12 fi_12_63.1 fi_12_63.2 q_1071 G w k_a0.1 k_a0.2 (dcs_get dec_X12_beginners_0 7 rfl) ?_
    obtain ⟨v11, h10, hf⟩ := cB_some hf
    refine a_i (k_S (As := [.int l2, .int (0 : Int32), .int (σ.1 a0 63)]) (rest := []) lb_X12_in q_1351 q_1350 (C_X12_in G.2.2.1 l2 (0 : Int32) (σ.1 a0 63) σ h10 ) ⟨(Nat.le_of_ble_eq_true rfl), (Nat.le_of_ble_eq_true rfl)⟩ G w rfl rfl hl.1 (Nat.le_of_ble_eq_true rfl) (dcs_get dec_X12_beginners_0 8 rfl) ⟨Nat.le_refl _, Nat.le_refl _⟩) G w (fun H locs w => ?_)
    refine lv_if_ne (tgt := 22) G.hx G.hb (dcs_get dec_X12_beginners_0 9 rfl) (by decide) (fun hc => ?_) (fun hc => ?_)
    · rw [if_neg hc] at hf
      refine lv_iconst (v := (0 : Int32)) G.hx G.hb (dcs_get dec_X12_beginners_0 12 rfl) (by decide) ?_
      refine lv_istore_n (lv' := [(3, .int (0 : Int32)), (0, .ref (ad a0)), (1, .int l1), (2, .int l2)]) G.hx G.hb (dcs_get dec_X12_beginners_0 13 rfl) rfl hl (by decide) rfl (fun ls hl => ?_)
      refine lv_iconst (v := (0 : Int32)) G.hx G.hb (dcs_get dec_X12_beginners_0 14 rfl) (by decide) ?_
      refine lv_istore (lv' := [(4, .int (0 : Int32)), (3, .int (0 : Int32)), (0, .ref (ad a0)), (1, .int l1), (2, .int l2)]) G.hx G.hb (dcs_get dec_X12_beginners_0 15 rfl) hl (by decide) rfl (fun ls hl => ?_)
      exact B_X12_beginners_27 a0 l1 l2 (0 : Int32) (0 : Int32) σ G hm ok_a0 hf  w (lv_sub hl [2, 3, 4, 1, 0] rfl)
    · rw [if_pos hc] at hf
      exact B_X12_beginners_20  σ G hm  hf  w (lv_sub hl [] rfl)
end
set_option maxRecDepth 100000 in
set_option maxHeartbeats 4000000 in
theorem C_X12_beginners {l : Launch} {D : va_G} {ay : Nat → ClassId} {ad : Nat → Nat} (hi : hInj NM ad) (a0 : Nat) (l1 : Int32) (l2 : Int32) (σ : hSt) {r0 : Int32} {σ0 : hSt} (hf : F_X12_beginners a0 l1 l2 σ = some (r0, σ0)) (ok_a0 : okr kM NM 12 a0 = true) : hM l D ay kM NM ad yX12_beginners cX12_beginners 5 ((some .int)) (rmK 7 173) [.ref (ad a0), .int l1, .int l2] σ (cI D ay kM NM ad r0 σ0) := by
  refine hM_in (by decide) hi (Nat.le_of_ble_eq_true rfl) ?_
  intro p e s m below meth c G hm w ls hl
  exact B_X12_beginners_0 a0 l1 l2 σ G hm ok_a0 hf w (lv_sub hl [0, 1, 2] rfl)

/-! HillDrumsModel.hold(I)Z -/
def DL_X12_hold_0 : List (Nat × Instr × Nat) := [(0, .iload_n 1, 1), (1, .iconst 0, 1), (2, .iconst 2, 1), (3, .invokestatic 323, 3), (6, .ifCond .ne 5, 3), (9, .iconst 0, 1), (10, .ireturn, 1), (11, .aload_n 0, 1), (12, .getfield 152, 3), (15, .iload_n 1, 1), (16, .iconst 1, 1), (17, .bastore, 1), (18, .iconst 0, 1), (19, .istore_n 2, 1), (20, .iload_n 2, 1), (21, .sipush 380, 3), (24, .if_icmp .ge 27, 3), (27, .aload_n 0, 1), (28, .getfield 155, 3), (31, .sipush 380, 3), (34, .iload_n 1, 1), (35, .imul, 1), (36, .iload_n 2, 1), (37, .iadd, 1), (38, .aload_n 0, 1), (39, .getfield 125, 3), (42, .iload_n 2, 1), (43, .iaload, 1), (44, .iastore, 1), (45, .iinc 2 1, 3), (48, .goto (-28), 3), (51, .iconst 1, 1), (52, .ireturn, 1)]
set_option maxRecDepth 100000 in
theorem dec_X12_hold_0 : dcs cX12_hold DL_X12_hold_0 = true := by decide +kernel
theorem lb_X12_hold : lkB yX12_hold cX12_hold 3 ((some .boolean)) 1 := ⟨q_1566, q_14, ⟨by decide, by decide⟩, by decide +kernel⟩
theorem lv_X12_hold : lkV yX12_hold := ⟨q_1564, q_1565⟩
def F_X12_hold_20b (a0 : Nat) (l1 : Int32) (l2 : Int32) (σ : hSt) : Option ((Int32 × hSt) ⊕ (Int32 × hSt)) :=
if (380 : Int32) ≤ l2 then (
some (.inr (((1 : Int32), σ)))) else (
cR (σ.2.2 a0 68) (okr kM NM 101) fun z1 =>
cR (σ.2.2 a0 53) (okr kM NM 101) fun z2 =>
cG (inb l2 (kM z2).2) <|
cG (inb (((380 : Int32) * l1) + l2) (kM z1).2) <|
cL (uI σ z1 (((380 : Int32) * l1) + l2).toNatClampNeg (σ.1 z2 l2.toNatClampNeg)) fun σ5 =>
cL (l2 + (1 : Int32)) fun v6 =>
some (.inl (v6, σ5)))
def S_X12_hold_20 (a0 : Nat) (l1 : Int32) (v : Int32 × hSt) : Option ((Int32 × hSt) ⊕ (Int32 × hSt)) := F_X12_hold_20b a0 l1 v.1 v.2
def F_X12_hold_20 (a0 : Nat) (l1 : Int32) (l2 : Int32) (σ : hSt) : Option (Int32 × hSt) := lp (S_X12_hold_20 a0 l1) fuel (l2, σ)
def F_X12_hold (a0 : Nat) (l1 : Int32) (σ : hSt) : Option (Int32 × hSt) :=
(F_X12_in l1 (0 : Int32) (2 : Int32) σ).bind fun v8 =>
if v8 = 0 then (
some (((0 : Int32), σ))) else (
cR (σ.2.2 a0 67) (okr kM NM 102) fun z9 =>
cG (inb l1 (kM z9).2) <|
cL (uI σ z9 l1.toNatClampNeg (vp_nar .boolean (1 : Int32))) fun σ11 =>
F_X12_hold_20 a0 l1 (0 : Int32) σ11)
section
variable {p : Program} {l : Launch} {e : Env} {s : State} {m : MethodId} {args : Array Value} {below : List Frame} {meth : Method} {c : Code} {D : va_G} {ay : Nat → ClassId} {ad : Nat → Nat}
set_option maxRecDepth 100000 in
set_option maxHeartbeats 4000000 in
theorem B_X12_hold_20b {H : Heap} {locs : List Loc} {ls : Array Slot} {r0 : Int32} {σ0 : hSt} {o : (Int32 × hSt) ⊕ (Int32 × hSt)} (a0 : Nat) (l1 : Int32) (l2 : Int32) (σ : hSt) (G : Gx p m c cX12_hold 3 s args RX12 D ay NM ad (aN NM ad)) (hm : meth.sig.returnType = (some .boolean) ∧ meth.locks = false) (ok_a0 : okr kM NM 12 a0 = true) (hf : F_X12_hold_20b a0 l1 l2 σ = some o) (hb0 : ∀ (v : Int32 × hSt), o = .inl v → ∀ (H : Heap) (locs : List Loc) (ls : Array Slot), Wd D ay kM NM ad (aN NM ad) s v.2 H locs → lv_has ls 3 [(0, .ref (ad a0)), (1, .int l1), (2, .int v.1)] → W p l e (rmK 1 22) s m args below meth c H locs 0 0 (MQ below (cI D ay kM NM ad r0 σ0) args s 0 0 (aN NM ad)) (F0 m 20 ls [])) (hr : ∀ x, o = .inr (x) → x = (r0, σ0)) (w : Wd D ay kM NM ad (aN NM ad) s σ H locs) (hl : lv_has ls 3 [(0, .ref (ad a0)), (1, .int l1), (2, .int l2)]) : W p l e (rmK 1 22) s m args below meth c H locs 0 0 (MQ below (cI D ay kM NM ad r0 σ0) args s 0 0 (aN NM ad)) (F0 m 20 ls []) := by
  have k_a0 := okr_in ok_a0
  unfold F_X12_hold_20b at hf
  refine lv_iload_n G.hx G.hb (dcs_get dec_X12_hold_0 14 rfl) rfl (lv_at hl 2 rfl) ?_
  refine lv_sipush (v := (380 : Int32)) G.hx G.hb (dcs_get dec_X12_hold_0 15 rfl) (by decide) ?_
  refine lv_icmp_ge (tgt := 51) G.hx G.hb (dcs_get dec_X12_hold_0 16 rfl) (by decide) (fun hc => ?_) (fun hc => ?_)
  · rw [if_pos hc] at hf
    refine lv_iconst (v := (1 : Int32)) G.hx G.hb (dcs_get dec_X12_hold_0 31 rfl) (by decide) ?_
    have e9 := hr _ (Option.some.inj hf).symm
    exact r_zret rfl G w hm (congrArg Prod.fst e9) (congrArg Prod.snd e9) (dcs_get dec_X12_hold_0 32 rfl)
  · rw [if_neg hc] at hf
    refine lv_aload_n G.hx G.hb (dcs_get dec_X12_hold_0 17 rfl) rfl (lv_at hl 0 rfl) ?_
    obtain ⟨z1, e_z1, ok_z1, hf⟩ := cR_some hf
    have k_z1 := okr_in ok_z1
    refine r_getr (k := 68) cls12 fi_12_68.1 fi_12_68.2 q_1076 G w k_a0.1 k_a0.2 e_z1 (dcs_get dec_X12_hold_0 18 rfl) ?_
    refine lv_sipush (v := (380 : Int32)) G.hx G.hb (dcs_get dec_X12_hold_0 19 rfl) (by decide) ?_
    refine lv_iload_n G.hx G.hb (dcs_get dec_X12_hold_0 20 rfl) rfl (lv_at hl 1 rfl) ?_
    refine lv_imul G.hx G.hb (dcs_get dec_X12_hold_0 21 rfl) ?_
    refine lv_iload_n G.hx G.hb (dcs_get dec_X12_hold_0 22 rfl) rfl (lv_at hl 2 rfl) ?_
    refine lv_iadd G.hx G.hb (dcs_get dec_X12_hold_0 23 rfl) ?_
    refine lv_aload_n G.hx G.hb (dcs_get dec_X12_hold_0 24 rfl) rfl (lv_at hl 0 rfl) ?_
    obtain ⟨z2, e_z2, ok_z2, hf⟩ := cR_some hf
    have k_z2 := okr_in ok_z2
    refine r_getr (k := 53) cls12 fi_12_53.1 fi_12_53.2 q_1061 G w k_a0.1 k_a0.2 e_z2 (dcs_get dec_X12_hold_0 25 rfl) ?_
    refine lv_iload_n G.hx G.hb (dcs_get dec_X12_hold_0 26 rfl) rfl (lv_at hl 2 rfl) ?_
    obtain ⟨h3, hf⟩ := cG_some hf
    refine r_iald G w k_z2.1 k_z2.2 h3 (dcs_get dec_X12_hold_0 27 rfl) ?_
    obtain ⟨h4, hf⟩ := cG_some hf
    obtain ⟨σ5, e_σ5, hf⟩ := cL_some hf
    refine r_iast G w k_z1.1 k_z1.2 h4 (dcs_get dec_X12_hold_0 28 rfl) (fun H locs w => ?_)
    have w := Wd.nm e_σ5 w
    obtain ⟨v6, e_v6, hf⟩ := cL_some hf
    refine lv_iinc (v := v6) (lv' := [(2, .int v6), (0, .ref (ad a0)), (1, .int l1)]) G.hx G.hb (dcs_get dec_X12_hold_0 29 rfl) hl (k := 2) rfl (by rw [e_v6]; rfl) (by decide) rfl (fun ls hl => ?_)
    refine lv_goto (tgt := 20) G.hx G.hb (dcs_get dec_X12_hold_0 30 rfl) (by decide) ?_
    exact hb0 _ (Option.some.inj hf).symm _ _ _ w (lv_sub hl [1, 2, 0] rfl)
set_option maxRecDepth 100000 in
set_option maxHeartbeats 4000000 in
theorem H_X12_hold_20 {r0 : Int32} {σ0 : hSt} (a0 : Nat) (l1 : Int32) (G : Gx p m c cX12_hold 3 s args RX12 D ay NM ad (aN NM ad)) (hm : meth.sig.returnType = (some .boolean) ∧ meth.locks = false) (ok_a0 : okr kM NM 12 a0 = true)  : ∀ (k : Nat) (v : Int32 × hSt), lp (S_X12_hold_20 a0 l1) k v = some (r0, σ0) → ∀ (H : Heap) (locs : List Loc) (ls : Array Slot), Wd D ay kM NM ad (aN NM ad) s v.2 H locs → lv_has ls 3 [(0, .ref (ad a0)), (1, .int l1), (2, .int v.1)] → W p l e (rmK 1 22) s m args below meth c H locs 0 0 (MQ below (cI D ay kM NM ad r0 σ0) args s 0 0 (aN NM ad)) (F0 m 20 ls []) := by
  intro k
  induction k with
  | zero => intro v hf; cases hf
  | succ k ih =>
    intro v hf H locs ls w hl
    obtain ⟨o1, h1, h2, h3⟩ := lp_some hf
    exact B_X12_hold_20b a0 l1 v.1 v.2 G hm ok_a0 h1  (fun v' e => ih v' (h2 v' e)) (fun x e => h3 x e) w hl
set_option maxRecDepth 100000 in
set_option maxHeartbeats 4000000 in
theorem B_X12_hold_20 {H : Heap} {locs : List Loc} {ls : Array Slot} {r0 : Int32} {σ0 : hSt} (a0 : Nat) (l1 : Int32) (l2 : Int32) (σ : hSt) (G : Gx p m c cX12_hold 3 s args RX12 D ay NM ad (aN NM ad)) (hm : meth.sig.returnType = (some .boolean) ∧ meth.locks = false) (ok_a0 : okr kM NM 12 a0 = true) (hf : F_X12_hold_20 a0 l1 l2 σ = some (r0, σ0))  (w : Wd D ay kM NM ad (aN NM ad) s σ H locs) (hl : lv_has ls 3 [(0, .ref (ad a0)), (1, .int l1), (2, .int l2)]) : W p l e (rmK 1 22) s m args below meth c H locs 0 0 (MQ below (cI D ay kM NM ad r0 σ0) args s 0 0 (aN NM ad)) (F0 m 20 ls []) := by
  unfold F_X12_hold_20 at hf
  exact H_X12_hold_20 a0 l1  G hm ok_a0  fuel (l2, σ) hf _ _ _ w hl
set_option maxRecDepth 100000 in
set_option maxHeartbeats 4000000 in
theorem B_X12_hold_0 {H : Heap} {locs : List Loc} {ls : Array Slot} {r0 : Int32} {σ0 : hSt} (a0 : Nat) (l1 : Int32) (σ : hSt) (G : Gx p m c cX12_hold 3 s args RX12 D ay NM ad (aN NM ad)) (hm : meth.sig.returnType = (some .boolean) ∧ meth.locks = false) (ok_a0 : okr kM NM 12 a0 = true) (hf : F_X12_hold a0 l1 σ = some (r0, σ0))  (w : Wd D ay kM NM ad (aN NM ad) s σ H locs) (hl : lv_has ls 3 [(0, .ref (ad a0)), (1, .int l1)]) : W p l e (rmK 1 22) s m args below meth c H locs 0 0 (MQ below (cI D ay kM NM ad r0 σ0) args s 0 0 (aN NM ad)) (F0 m 0 ls []) := by
  have k_a0 := okr_in ok_a0
  unfold F_X12_hold at hf
  refine lv_iload_n G.hx G.hb (dcs_get dec_X12_hold_0 0 rfl) rfl (lv_at hl 1 rfl) ?_
  refine lv_iconst (v := (0 : Int32)) G.hx G.hb (dcs_get dec_X12_hold_0 1 rfl) (by decide) ?_
  refine lv_iconst (v := (2 : Int32)) G.hx G.hb (dcs_get dec_X12_hold_0 2 rfl) (by decide) ?_
  obtain ⟨v8, h7, hf⟩ := cB_some hf
  refine a_i (k_S (As := [.int l1, .int (0 : Int32), .int (2 : Int32)]) (rest := []) lb_X12_in q_1351 q_1350 (C_X12_in G.2.2.1 l1 (0 : Int32) (2 : Int32) σ h7 ) ⟨(Nat.le_of_ble_eq_true rfl), (Nat.le_of_ble_eq_true rfl)⟩ G w rfl rfl hl.1 (Nat.le_of_ble_eq_true rfl) (dcs_get dec_X12_hold_0 3 rfl) ⟨Nat.le_refl _, Nat.le_refl _⟩) G w (fun H locs w => ?_)
  refine lv_if_ne (tgt := 11) G.hx G.hb (dcs_get dec_X12_hold_0 4 rfl) (by decide) (fun hc => ?_) (fun hc => ?_)
  · rw [if_neg hc] at hf
    refine lv_aload_n G.hx G.hb (dcs_get dec_X12_hold_0 7 rfl) rfl (lv_at hl 0 rfl) ?_
    obtain ⟨z9, e_z9, ok_z9, hf⟩ := cR_some hf
    have k_z9 := okr_in ok_z9
    refine r_getr (k := 67) cls12 fi_12_67.1 fi_12_67.2 q_1075 G w k_a0.1 k_a0.2 e_z9 (dcs_get dec_X12_hold_0 8 rfl) ?_
    refine lv_iload_n G.hx G.hb (dcs_get dec_X12_hold_0 9 rfl) rfl (lv_at hl 1 rfl) ?_
    refine lv_iconst (v := (1 : Int32)) G.hx G.hb (dcs_get dec_X12_hold_0 10 rfl) (by decide) ?_
    obtain ⟨h10, hf⟩ := cG_some hf
    obtain ⟨σ11, e_σ11, hf⟩ := cL_some hf
    refine r_zast G w k_z9.1 k_z9.2 h10 (dcs_get dec_X12_hold_0 11 rfl) (fun H locs w => ?_)
    have w := Wd.nm e_σ11 w
    refine lv_iconst (v := (0 : Int32)) G.hx G.hb (dcs_get dec_X12_hold_0 12 rfl) (by decide) ?_
    refine lv_istore_n (lv' := [(2, .int (0 : Int32)), (0, .ref (ad a0)), (1, .int l1)]) G.hx G.hb (dcs_get dec_X12_hold_0 13 rfl) rfl hl (by decide) rfl (fun ls hl => ?_)
    exact B_X12_hold_20 a0 l1 (0 : Int32) σ11 G hm ok_a0 hf  w (lv_sub hl [1, 2, 0] rfl)
  · rw [if_pos hc] at hf
    refine lv_iconst (v := (0 : Int32)) G.hx G.hb (dcs_get dec_X12_hold_0 5 rfl) (by decide) ?_
    have e9 := Option.some.inj hf
    exact r_zret rfl G w hm (congrArg Prod.fst e9) (congrArg Prod.snd e9) (dcs_get dec_X12_hold_0 6 rfl)
end
set_option maxRecDepth 100000 in
set_option maxHeartbeats 4000000 in
theorem C_X12_hold {l : Launch} {D : va_G} {ay : Nat → ClassId} {ad : Nat → Nat} (hi : hInj NM ad) (a0 : Nat) (l1 : Int32) (σ : hSt) {r0 : Int32} {σ0 : hSt} (hf : F_X12_hold a0 l1 σ = some (r0, σ0)) (ok_a0 : okr kM NM 12 a0 = true) : hM l D ay kM NM ad yX12_hold cX12_hold 3 ((some .boolean)) (rmK 1 22) [.ref (ad a0), .int l1] σ (cI D ay kM NM ad r0 σ0) := by
  refine hM_in (by decide) hi (Nat.le_of_ble_eq_true rfl) ?_
  intro p e s m below meth c G hm w ls hl
  exact B_X12_hold_0 a0 l1 σ G hm ok_a0 hf w (lv_sub hl [0, 1] rfl)

/-! HillDrumsModel.restore(I)Z -/
def DL_X12_restore_0 : List (Nat × Instr × Nat) := [(0, .iload_n 1, 1), (1, .iconst 0, 1), (2, .iconst 2, 1), (3, .invokestatic 323, 3), (6, .ifCond .eq 12, 3), (9, .aload_n 0, 1), (10, .getfield 152, 3), (13, .iload_n 1, 1), (14, .baload, 1), (15, .ifCond .ne 5, 3), (18, .iconst 0, 1), (19, .ireturn, 1), (20, .iconst 0, 1), (21, .istore_n 2, 1), (22, .iload_n 2, 1), (23, .sipush 380, 3), (26, .if_icmp .ge 27, 3), (29, .aload_n 0, 1), (30, .getfield 125, 3), (33, .iload_n 2, 1), (34, .aload_n 0, 1), (35, .getfield 155, 3), (38, .sipush 380, 3), (41, .iload_n 1, 1), (42, .imul, 1), (43, .iload_n 2, 1), (44, .iadd, 1), (45, .iaload, 1), (46, .iastore, 1), (47, .iinc 2 1, 3), (50, .goto (-28), 3), (53, .aload_n 0, 1), (54, .iconst 0, 1), (55, .putfield 254, 3), (58, .iconst 1, 1), (59, .ireturn, 1)]
set_option maxRecDepth 100000 in
theorem dec_X12_restore_0 : dcs cX12_restore DL_X12_restore_0 = true := by decide +kernel
theorem lb_X12_restore : lkB yX12_restore cX12_restore 3 ((some .boolean)) 1 := ⟨q_1570, q_14, ⟨by decide, by decide⟩, by decide +kernel⟩
theorem lv_X12_restore : lkV yX12_restore := ⟨q_1568, q_1569⟩
def F_X12_restore_18  (σ : hSt) : Option (Int32 × hSt) :=
some (((0 : Int32), σ))
def F_X12_restore_22b (a0 : Nat) (l1 : Int32) (l2 : Int32) (σ : hSt) : Option ((Int32 × hSt) ⊕ (Int32 × hSt)) :=
if (380 : Int32) ≤ l2 then (
cL (uI σ a0 57 (0 : Int32)) fun σ1 =>
some (.inr (((1 : Int32), σ1)))) else (
cR (σ.2.2 a0 53) (okr kM NM 101) fun z2 =>
cR (σ.2.2 a0 68) (okr kM NM 101) fun z3 =>
cG (inb (((380 : Int32) * l1) + l2) (kM z3).2) <|
cG (inb l2 (kM z2).2) <|
cL (uI σ z2 l2.toNatClampNeg (σ.1 z3 (((380 : Int32) * l1) + l2).toNatClampNeg)) fun σ6 =>
cL (l2 + (1 : Int32)) fun v7 =>
some (.inl (v7, σ6)))
def S_X12_restore_22 (a0 : Nat) (l1 : Int32) (v : Int32 × hSt) : Option ((Int32 × hSt) ⊕ (Int32 × hSt)) := F_X12_restore_22b a0 l1 v.1 v.2
def F_X12_restore_22 (a0 : Nat) (l1 : Int32) (l2 : Int32) (σ : hSt) : Option (Int32 × hSt) := lp (S_X12_restore_22 a0 l1) fuel (l2, σ)
def F_X12_restore (a0 : Nat) (l1 : Int32) (σ : hSt) : Option (Int32 × hSt) :=
(F_X12_in l1 (0 : Int32) (2 : Int32) σ).bind fun v9 =>
if v9 = 0 then (
F_X12_restore_18  σ) else (
cR (σ.2.2 a0 67) (okr kM NM 102) fun z10 =>
cG (inb l1 (kM z10).2) <|
if (σ.1 z10 l1.toNatClampNeg) = 0 then (
F_X12_restore_18  σ) else (
F_X12_restore_22 a0 l1 (0 : Int32) σ))
section
variable {p : Program} {l : Launch} {e : Env} {s : State} {m : MethodId} {args : Array Value} {below : List Frame} {meth : Method} {c : Code} {D : va_G} {ay : Nat → ClassId} {ad : Nat → Nat}
set_option maxRecDepth 100000 in
set_option maxHeartbeats 4000000 in
theorem B_X12_restore_18 {H : Heap} {locs : List Loc} {ls : Array Slot} {r0 : Int32} {σ0 : hSt}  (σ : hSt) (G : Gx p m c cX12_restore 3 s args RX12 D ay NM ad (aN NM ad)) (hm : meth.sig.returnType = (some .boolean) ∧ meth.locks = false)  (hf : F_X12_restore_18  σ = some (r0, σ0))  (w : Wd D ay kM NM ad (aN NM ad) s σ H locs) (hl : lv_has ls 3 []) : W p l e (rmK 1 22) s m args below meth c H locs 0 0 (MQ below (cI D ay kM NM ad r0 σ0) args s 0 0 (aN NM ad)) (F0 m 18 ls []) := by
  unfold F_X12_restore_18 at hf
  refine lv_iconst (v := (0 : Int32)) G.hx G.hb (dcs_get dec_X12_restore_0 10 rfl) (by decide) ?_
  have e9 := Option.some.inj hf
  exact r_zret rfl G w hm (congrArg Prod.fst e9) (congrArg Prod.snd e9) (dcs_get dec_X12_restore_0 11 rfl)
set_option maxRecDepth 100000 in
set_option maxHeartbeats 4000000 in
theorem B_X12_restore_22b {H : Heap} {locs : List Loc} {ls : Array Slot} {r0 : Int32} {σ0 : hSt} {o : (Int32 × hSt) ⊕ (Int32 × hSt)} (a0 : Nat) (l1 : Int32) (l2 : Int32) (σ : hSt) (G : Gx p m c cX12_restore 3 s args RX12 D ay NM ad (aN NM ad)) (hm : meth.sig.returnType = (some .boolean) ∧ meth.locks = false) (ok_a0 : okr kM NM 12 a0 = true) (hf : F_X12_restore_22b a0 l1 l2 σ = some o) (hb0 : ∀ (v : Int32 × hSt), o = .inl v → ∀ (H : Heap) (locs : List Loc) (ls : Array Slot), Wd D ay kM NM ad (aN NM ad) s v.2 H locs → lv_has ls 3 [(0, .ref (ad a0)), (1, .int l1), (2, .int v.1)] → W p l e (rmK 1 22) s m args below meth c H locs 0 0 (MQ below (cI D ay kM NM ad r0 σ0) args s 0 0 (aN NM ad)) (F0 m 22 ls [])) (hr : ∀ x, o = .inr (x) → x = (r0, σ0)) (w : Wd D ay kM NM ad (aN NM ad) s σ H locs) (hl : lv_has ls 3 [(0, .ref (ad a0)), (1, .int l1), (2, .int l2)]) : W p l e (rmK 1 22) s m args below meth c H locs 0 0 (MQ below (cI D ay kM NM ad r0 σ0) args s 0 0 (aN NM ad)) (F0 m 22 ls []) := by
  have k_a0 := okr_in ok_a0
  unfold F_X12_restore_22b at hf
  refine lv_iload_n G.hx G.hb (dcs_get dec_X12_restore_0 14 rfl) rfl (lv_at hl 2 rfl) ?_
  refine lv_sipush (v := (380 : Int32)) G.hx G.hb (dcs_get dec_X12_restore_0 15 rfl) (by decide) ?_
  refine lv_icmp_ge (tgt := 53) G.hx G.hb (dcs_get dec_X12_restore_0 16 rfl) (by decide) (fun hc => ?_) (fun hc => ?_)
  · rw [if_pos hc] at hf
    refine lv_aload_n G.hx G.hb (dcs_get dec_X12_restore_0 31 rfl) rfl (lv_at hl 0 rfl) ?_
    refine lv_iconst (v := (0 : Int32)) G.hx G.hb (dcs_get dec_X12_restore_0 32 rfl) (by decide) ?_
    obtain ⟨σ1, e_σ1, hf⟩ := cL_some hf
    refine r_puti (k := 57) cls12 ct12 fi_12_57.1 fi_12_57.2 fp_12_57.1 fp_12_57.2 q_1065 rfl rfl G w k_a0.1 k_a0.2 (dcs_get dec_X12_restore_0 33 rfl) (fun H locs w => ?_)
    have w := Wd.nm e_σ1 w
    refine lv_iconst (v := (1 : Int32)) G.hx G.hb (dcs_get dec_X12_restore_0 34 rfl) (by decide) ?_
    have e9 := hr _ (Option.some.inj hf).symm
    exact r_zret rfl G w hm (congrArg Prod.fst e9) (congrArg Prod.snd e9) (dcs_get dec_X12_restore_0 35 rfl)
  · rw [if_neg hc] at hf
    refine lv_aload_n G.hx G.hb (dcs_get dec_X12_restore_0 17 rfl) rfl (lv_at hl 0 rfl) ?_
    obtain ⟨z2, e_z2, ok_z2, hf⟩ := cR_some hf
    have k_z2 := okr_in ok_z2
    refine r_getr (k := 53) cls12 fi_12_53.1 fi_12_53.2 q_1061 G w k_a0.1 k_a0.2 e_z2 (dcs_get dec_X12_restore_0 18 rfl) ?_
    refine lv_iload_n G.hx G.hb (dcs_get dec_X12_restore_0 19 rfl) rfl (lv_at hl 2 rfl) ?_
    refine lv_aload_n G.hx G.hb (dcs_get dec_X12_restore_0 20 rfl) rfl (lv_at hl 0 rfl) ?_
    obtain ⟨z3, e_z3, ok_z3, hf⟩ := cR_some hf
    have k_z3 := okr_in ok_z3
    refine r_getr (k := 68) cls12 fi_12_68.1 fi_12_68.2 q_1076 G w k_a0.1 k_a0.2 e_z3 (dcs_get dec_X12_restore_0 21 rfl) ?_
    refine lv_sipush (v := (380 : Int32)) G.hx G.hb (dcs_get dec_X12_restore_0 22 rfl) (by decide) ?_
    refine lv_iload_n G.hx G.hb (dcs_get dec_X12_restore_0 23 rfl) rfl (lv_at hl 1 rfl) ?_
    refine lv_imul G.hx G.hb (dcs_get dec_X12_restore_0 24 rfl) ?_
    refine lv_iload_n G.hx G.hb (dcs_get dec_X12_restore_0 25 rfl) rfl (lv_at hl 2 rfl) ?_
    refine lv_iadd G.hx G.hb (dcs_get dec_X12_restore_0 26 rfl) ?_
    obtain ⟨h4, hf⟩ := cG_some hf
    refine r_iald G w k_z3.1 k_z3.2 h4 (dcs_get dec_X12_restore_0 27 rfl) ?_
    obtain ⟨h5, hf⟩ := cG_some hf
    obtain ⟨σ6, e_σ6, hf⟩ := cL_some hf
    refine r_iast G w k_z2.1 k_z2.2 h5 (dcs_get dec_X12_restore_0 28 rfl) (fun H locs w => ?_)
    have w := Wd.nm e_σ6 w
    obtain ⟨v7, e_v7, hf⟩ := cL_some hf
    refine lv_iinc (v := v7) (lv' := [(2, .int v7), (0, .ref (ad a0)), (1, .int l1)]) G.hx G.hb (dcs_get dec_X12_restore_0 29 rfl) hl (k := 2) rfl (by rw [e_v7]; rfl) (by decide) rfl (fun ls hl => ?_)
    refine lv_goto (tgt := 22) G.hx G.hb (dcs_get dec_X12_restore_0 30 rfl) (by decide) ?_
    exact hb0 _ (Option.some.inj hf).symm _ _ _ w (lv_sub hl [1, 2, 0] rfl)
set_option maxRecDepth 100000 in
set_option maxHeartbeats 4000000 in
theorem H_X12_restore_22 {r0 : Int32} {σ0 : hSt} (a0 : Nat) (l1 : Int32) (G : Gx p m c cX12_restore 3 s args RX12 D ay NM ad (aN NM ad)) (hm : meth.sig.returnType = (some .boolean) ∧ meth.locks = false) (ok_a0 : okr kM NM 12 a0 = true)  : ∀ (k : Nat) (v : Int32 × hSt), lp (S_X12_restore_22 a0 l1) k v = some (r0, σ0) → ∀ (H : Heap) (locs : List Loc) (ls : Array Slot), Wd D ay kM NM ad (aN NM ad) s v.2 H locs → lv_has ls 3 [(0, .ref (ad a0)), (1, .int l1), (2, .int v.1)] → W p l e (rmK 1 22) s m args below meth c H locs 0 0 (MQ below (cI D ay kM NM ad r0 σ0) args s 0 0 (aN NM ad)) (F0 m 22 ls []) := by
  intro k
  induction k with
  | zero => intro v hf; cases hf
  | succ k ih =>
    intro v hf H locs ls w hl
    obtain ⟨o1, h1, h2, h3⟩ := lp_some hf
    exact B_X12_restore_22b a0 l1 v.1 v.2 G hm ok_a0 h1  (fun v' e => ih v' (h2 v' e)) (fun x e => h3 x e) w hl
set_option maxRecDepth 100000 in
set_option maxHeartbeats 4000000 in
theorem B_X12_restore_22 {H : Heap} {locs : List Loc} {ls : Array Slot} {r0 : Int32} {σ0 : hSt} (a0 : Nat) (l1 : Int32) (l2 : Int32) (σ : hSt) (G : Gx p m c cX12_restore 3 s args RX12 D ay NM ad (aN NM ad)) (hm : meth.sig.returnType = (some .boolean) ∧ meth.locks = false) (ok_a0 : okr kM NM 12 a0 = true) (hf : F_X12_restore_22 a0 l1 l2 σ = some (r0, σ0))  (w : Wd D ay kM NM ad (aN NM ad) s σ H locs) (hl : lv_has ls 3 [(0, .ref (ad a0)), (1, .int l1), (2, .int l2)]) : W p l e (rmK 1 22) s m args below meth c H locs 0 0 (MQ below (cI D ay kM NM ad r0 σ0) args s 0 0 (aN NM ad)) (F0 m 22 ls []) := by
  unfold F_X12_restore_22 at hf
  exact H_X12_restore_22 a0 l1  G hm ok_a0  fuel (l2, σ) hf _ _ _ w hl
set_option maxRecDepth 100000 in
set_option maxHeartbeats 4000000 in
theorem B_X12_restore_0 {H : Heap} {locs : List Loc} {ls : Array Slot} {r0 : Int32} {σ0 : hSt} (a0 : Nat) (l1 : Int32) (σ : hSt) (G : Gx p m c cX12_restore 3 s args RX12 D ay NM ad (aN NM ad)) (hm : meth.sig.returnType = (some .boolean) ∧ meth.locks = false) (ok_a0 : okr kM NM 12 a0 = true) (hf : F_X12_restore a0 l1 σ = some (r0, σ0))  (w : Wd D ay kM NM ad (aN NM ad) s σ H locs) (hl : lv_has ls 3 [(0, .ref (ad a0)), (1, .int l1)]) : W p l e (rmK 1 22) s m args below meth c H locs 0 0 (MQ below (cI D ay kM NM ad r0 σ0) args s 0 0 (aN NM ad)) (F0 m 0 ls []) := by
  have k_a0 := okr_in ok_a0
  unfold F_X12_restore at hf
  refine lv_iload_n G.hx G.hb (dcs_get dec_X12_restore_0 0 rfl) rfl (lv_at hl 1 rfl) ?_
  refine lv_iconst (v := (0 : Int32)) G.hx G.hb (dcs_get dec_X12_restore_0 1 rfl) (by decide) ?_
  refine lv_iconst (v := (2 : Int32)) G.hx G.hb (dcs_get dec_X12_restore_0 2 rfl) (by decide) ?_
  obtain ⟨v9, h8, hf⟩ := cB_some hf
  refine a_i (k_S (As := [.int l1, .int (0 : Int32), .int (2 : Int32)]) (rest := []) lb_X12_in q_1351 q_1350 (C_X12_in G.2.2.1 l1 (0 : Int32) (2 : Int32) σ h8 ) ⟨(Nat.le_of_ble_eq_true rfl), (Nat.le_of_ble_eq_true rfl)⟩ G w rfl rfl hl.1 (Nat.le_of_ble_eq_true rfl) (dcs_get dec_X12_restore_0 3 rfl) ⟨Nat.le_refl _, Nat.le_refl _⟩) G w (fun H locs w => ?_)
  refine lv_if_eq (tgt := 18) G.hx G.hb (dcs_get dec_X12_restore_0 4 rfl) (by decide) (fun hc => ?_) (fun hc => ?_)
  · rw [if_pos hc] at hf
    exact B_X12_restore_18  σ G hm  hf  w (lv_sub hl [] rfl)
  · rw [if_neg hc] at hf
    refine lv_aload_n G.hx G.hb (dcs_get dec_X12_restore_0 5 rfl) rfl (lv_at hl 0 rfl) ?_
    obtain ⟨z10, e_z10, ok_z10, hf⟩ := cR_some hf
    have k_z10 := okr_in ok_z10
    refine r_getr (k := 67) cls12 fi_12_67.1 fi_12_67.2 q_1075 G w k_a0.1 k_a0.2 e_z10 (dcs_get dec_X12_restore_0 6 rfl) ?_
    refine lv_iload_n G.hx G.hb (dcs_get dec_X12_restore_0 7 rfl) rfl (lv_at hl 1 rfl) ?_
    obtain ⟨h11, hf⟩ := cG_some hf
    refine r_zald G w k_z10.1 k_z10.2 h11 (dcs_get dec_X12_restore_0 8 rfl) ?_
    refine lv_if_ne (tgt := 20) G.hx G.hb (dcs_get dec_X12_restore_0 9 rfl) (by decide) (fun hc => ?_) (fun hc => ?_)
    · rw [if_neg hc] at hf
      refine lv_iconst (v := (0 : Int32)) G.hx G.hb (dcs_get dec_X12_restore_0 12 rfl) (by decide) ?_
      refine lv_istore_n (lv' := [(2, .int (0 : Int32)), (0, .ref (ad a0)), (1, .int l1)]) G.hx G.hb (dcs_get dec_X12_restore_0 13 rfl) rfl hl (by decide) rfl (fun ls hl => ?_)
      exact B_X12_restore_22 a0 l1 (0 : Int32) σ G hm ok_a0 hf  w (lv_sub hl [1, 2, 0] rfl)
    · rw [if_pos hc] at hf
      exact B_X12_restore_18  σ G hm  hf  w (lv_sub hl [] rfl)
end
set_option maxRecDepth 100000 in
set_option maxHeartbeats 4000000 in
theorem C_X12_restore {l : Launch} {D : va_G} {ay : Nat → ClassId} {ad : Nat → Nat} (hi : hInj NM ad) (a0 : Nat) (l1 : Int32) (σ : hSt) {r0 : Int32} {σ0 : hSt} (hf : F_X12_restore a0 l1 σ = some (r0, σ0)) (ok_a0 : okr kM NM 12 a0 = true) : hM l D ay kM NM ad yX12_restore cX12_restore 3 ((some .boolean)) (rmK 1 22) [.ref (ad a0), .int l1] σ (cI D ay kM NM ad r0 σ0) := by
  refine hM_in (by decide) hi (Nat.le_of_ble_eq_true rfl) ?_
  intro p e s m below meth c G hm w ls hl
  exact B_X12_restore_0 a0 l1 σ G hm ok_a0 hf w (lv_sub hl [0, 1] rfl)

/-! HillDrumsModel.count(I)I -/
def DL_X12_count_0 : List (Nat × Instr × Nat) := [(0, .iload_n 1, 1), (1, .tableswitch 248 0 13 #[71, 81, 91, 99, 107, 115, 125, 135, 147, 161, 166, 171, 176, 221], 71), (72, .aload_n 0, 1), (73, .getfield 49, 3), (76, .aload_n 0, 1), (77, .getfield 236, 3), (80, .iaload, 1), (81, .ireturn, 1), (82, .aload_n 0, 1), (83, .getfield 58, 3), (86, .aload_n 0, 1), (87, .getfield 236, 3), (90, .iaload, 1), (91, .ireturn, 1), (92, .aload_n 0, 1), (93, .getfield 125, 3), (96, .bipush 120, 2), (98, .iaload, 1), (99, .ireturn, 1), (100, .aload_n 0, 1), (101, .getfield 125, 3), (104, .bipush 121, 2), (106, .iaload, 1), (107, .ireturn, 1), (108, .aload_n 0, 1), (109, .getfield 125, 3), (112, .bipush 122, 2), (114, .iaload, 1), (115, .ireturn, 1), (116, .aload_n 0, 1), (117, .getfield 70, 3), (120, .aload_n 0, 1), (121, .getfield 236, 3), (124, .iaload, 1), (125, .ireturn, 1), (126, .aload_n 0, 1), (127, .getfield 73, 3), (130, .aload_n 0, 1), (131, .getfield 236, 3), (134, .iaload, 1)]
set_option maxRecDepth 100000 in
theorem dec_X12_count_0 : dcs cX12_count DL_X12_count_0 = true := by decide +kernel
def DL_X12_count_1 : List (Nat × Instr × Nat) := [(135, .ireturn, 1), (136, .aload_n 0, 1), (137, .getfield 64, 3), (140, .iconst 2, 1), (141, .aload_n 0, 1), (142, .getfield 236, 3), (145, .imul, 1), (146, .iaload, 1), (147, .ireturn, 1), (148, .aload_n 0, 1), (149, .getfield 64, 3), (152, .iconst 2, 1), (153, .aload_n 0, 1), (154, .getfield 236, 3), (157, .imul, 1), (158, .iconst 1, 1), (159, .iadd, 1), (160, .iaload, 1), (161, .ireturn, 1), (162, .aload_n 0, 1), (163, .getfield 168, 3), (166, .ireturn, 1), (167, .aload_n 0, 1), (168, .getfield 254, 3), (171, .ireturn, 1), (172, .aload_n 0, 1), (173, .getfield 257, 3), (176, .ireturn, 1), (177, .aload_n 0, 1), (178, .getfield 152, 3), (181, .iconst 0, 1), (182, .baload, 1), (183, .ifCond .eq 7, 3), (186, .iconst 1, 1), (187, .goto 4, 3), (190, .iconst 0, 1), (191, .aload_n 0, 1), (192, .getfield 152, 3), (195, .iconst 1, 1), (196, .baload, 1)]
set_option maxRecDepth 100000 in
theorem dec_X12_count_1 : dcs cX12_count DL_X12_count_1 = true := by decide +kernel
def DL_X12_count_2 : List (Nat × Instr × Nat) := [(197, .ifCond .eq 7, 3), (200, .iconst 1, 1), (201, .goto 4, 3), (204, .iconst 0, 1), (205, .iadd, 1), (206, .aload_n 0, 1), (207, .getfield 152, 3), (210, .iconst 2, 1), (211, .baload, 1), (212, .ifCond .eq 7, 3), (215, .iconst 1, 1), (216, .goto 4, 3), (219, .iconst 0, 1), (220, .iadd, 1), (221, .ireturn, 1), (222, .iconst 0, 1), (223, .istore_n 2, 1), (224, .iconst 0, 1), (225, .istore_n 3, 1), (226, .iload_n 3, 1), (227, .bipush 24, 2), (229, .if_icmp .ge 18, 3), (232, .iload_n 2, 1), (233, .aload_n 0, 1), (234, .getfield 125, 3), (237, .iload_n 3, 1), (238, .iaload, 1), (239, .iadd, 1), (240, .istore_n 2, 1), (241, .iinc 3 1, 3), (244, .goto (-18), 3), (247, .iload_n 2, 1), (248, .ireturn, 1), (249, .iconst (-1), 1), (250, .ireturn, 1)]
set_option maxRecDepth 100000 in
theorem dec_X12_count_2 : dcs cX12_count DL_X12_count_2 = true := by decide +kernel
theorem lb_X12_count : lkB yX12_count cX12_count 4 ((some .int)) 1 := ⟨q_1574, q_14, ⟨by decide, by decide⟩, by decide +kernel⟩
theorem lv_X12_count : lkV yX12_count := ⟨q_1572, q_1573⟩
def F_X12_count_226b (a0 : Nat) (l2 : Int32) (l3 : Int32) (σ : hSt) : Option ((Int32 × Int32) ⊕ (Int32)) :=
if (24 : Int32) ≤ l3 then (
some (.inr (l2))) else (
cR (σ.2.2 a0 53) (okr kM NM 101) fun z1 =>
cG (inb l3 (kM z1).2) <|
cL (l2 + (σ.1 z1 l3.toNatClampNeg)) fun v3 =>
cL (l3 + (1 : Int32)) fun v4 =>
some (.inl (v3, v4)))
def S_X12_count_226 (a0 : Nat) (σ : hSt) (v : Int32 × Int32) : Option ((Int32 × Int32) ⊕ (Int32)) := F_X12_count_226b a0 v.1 v.2 σ
def F_X12_count_226 (a0 : Nat) (l2 : Int32) (l3 : Int32) (σ : hSt) : Option (Int32) := lp (S_X12_count_226 a0 σ) fuel (l2, l3)
def F_X12_count_220 (s0 : Int32) (s1 : Int32) (σ : hSt) : Option (Int32) :=
some (s0 + s1)
def F_X12_count_205 (a0 : Nat) (s0 : Int32) (s1 : Int32) (σ : hSt) : Option (Int32) :=
cR (σ.2.2 a0 67) (okr kM NM 102) fun z5 =>
cG (inb (2 : Int32) (kM z5).2) <|
if (σ.1 z5 (2 : Int32).toNatClampNeg) = 0 then (
F_X12_count_220 (s0 + s1) (0 : Int32) σ) else (
F_X12_count_220 (s0 + s1) (1 : Int32) σ)
def F_X12_count_191 (a0 : Nat) (s0 : Int32) (σ : hSt) : Option (Int32) :=
cR (σ.2.2 a0 67) (okr kM NM 102) fun z7 =>
cG (inb (1 : Int32) (kM z7).2) <|
if (σ.1 z7 (1 : Int32).toNatClampNeg) = 0 then (
F_X12_count_205 a0 s0 (0 : Int32) σ) else (
F_X12_count_205 a0 s0 (1 : Int32) σ)
def F_X12_count (a0 : Nat) (l1 : Int32) (σ : hSt) : Option (Int32) :=
if l1 = (0 : Int32) then (
cR (σ.2.2 a0 24) (okr kM NM 101) fun z9 =>
cG (inb (σ.1 a0 18) (kM z9).2) <|
some (σ.1 z9 (σ.1 a0 18).toNatClampNeg)) else (
if l1 = (1 : Int32) then (
cR (σ.2.2 a0 27) (okr kM NM 101) fun z11 =>
cG (inb (σ.1 a0 18) (kM z11).2) <|
some (σ.1 z11 (σ.1 a0 18).toNatClampNeg)) else (
if l1 = (2 : Int32) then (
cR (σ.2.2 a0 53) (okr kM NM 101) fun z13 =>
cG (inb (120 : Int32) (kM z13).2) <|
some (σ.1 z13 (120 : Int32).toNatClampNeg)) else (
if l1 = (3 : Int32) then (
cR (σ.2.2 a0 53) (okr kM NM 101) fun z15 =>
cG (inb (121 : Int32) (kM z15).2) <|
some (σ.1 z15 (121 : Int32).toNatClampNeg)) else (
if l1 = (4 : Int32) then (
cR (σ.2.2 a0 53) (okr kM NM 101) fun z17 =>
cG (inb (122 : Int32) (kM z17).2) <|
some (σ.1 z17 (122 : Int32).toNatClampNeg)) else (
if l1 = (5 : Int32) then (
cR (σ.2.2 a0 31) (okr kM NM 101) fun z19 =>
cG (inb (σ.1 a0 18) (kM z19).2) <|
some (σ.1 z19 (σ.1 a0 18).toNatClampNeg)) else (
if l1 = (6 : Int32) then (
cR (σ.2.2 a0 32) (okr kM NM 101) fun z21 =>
cG (inb (σ.1 a0 18) (kM z21).2) <|
some (σ.1 z21 (σ.1 a0 18).toNatClampNeg)) else (
if l1 = (7 : Int32) then (
cR (σ.2.2 a0 29) (okr kM NM 101) fun z23 =>
cG (inb ((2 : Int32) * (σ.1 a0 18)) (kM z23).2) <|
some (σ.1 z23 ((2 : Int32) * (σ.1 a0 18)).toNatClampNeg)) else (
if l1 = (8 : Int32) then (
cR (σ.2.2 a0 29) (okr kM NM 101) fun z25 =>
cG (inb (((2 : Int32) * (σ.1 a0 18)) + (1 : Int32)) (kM z25).2) <|
some (σ.1 z25 (((2 : Int32) * (σ.1 a0 18)) + (1 : Int32)).toNatClampNeg)) else (
if l1 = (9 : Int32) then (
some (σ.1 a0 2)) else (
if l1 = (10 : Int32) then (
some (σ.1 a0 57)) else (
if l1 = (11 : Int32) then (
some (σ.1 a0 63)) else (
if l1 = (12 : Int32) then (
cR (σ.2.2 a0 67) (okr kM NM 102) fun z27 =>
cG (inb (0 : Int32) (kM z27).2) <|
if (σ.1 z27 (0 : Int32).toNatClampNeg) = 0 then (
F_X12_count_191 a0 (0 : Int32) σ) else (
F_X12_count_191 a0 (1 : Int32) σ)) else (
if l1 = (13 : Int32) then (
F_X12_count_226 a0 (0 : Int32) (0 : Int32) σ) else (
some ((-1 : Int32))))))))))))))))
section
variable {p : Program} {l : Launch} {e : Env} {s : State} {m : MethodId} {args : Array Value} {below : List Frame} {meth : Method} {c : Code} {D : va_G} {ay : Nat → ClassId} {ad : Nat → Nat}
set_option maxRecDepth 100000 in
set_option maxHeartbeats 4000000 in
theorem B_X12_count_226b {H : Heap} {locs : List Loc} {ls : Array Slot} {r0 : Int32} {o : (Int32 × Int32) ⊕ (Int32)} (a0 : Nat) (l2 : Int32) (l3 : Int32) (σ : hSt) (G : Gx p m c cX12_count 4 s args RX12 D ay NM ad (aN NM ad)) (hm : meth.sig.returnType = (some .int) ∧ meth.locks = false) (ok_a0 : okr kM NM 12 a0 = true) (hf : F_X12_count_226b a0 l2 l3 σ = some o) (hb0 : ∀ (v : Int32 × Int32), o = .inl v → ∀ (H : Heap) (locs : List Loc) (ls : Array Slot), Wd D ay kM NM ad (aN NM ad) s σ H locs → lv_has ls 4 [(0, .ref (ad a0)), (2, .int v.1), (3, .int v.2)] → W p l e (rmK 0 0) s m args below meth c H locs 0 0 (MQ below (cI D ay kM NM ad r0 σ) args s 0 0 (aN NM ad)) (F0 m 226 ls [])) (hr : ∀ x, o = .inr (x) → x = r0) (w : Wd D ay kM NM ad (aN NM ad) s σ H locs) (hl : lv_has ls 4 [(0, .ref (ad a0)), (2, .int l2), (3, .int l3)]) : W p l e (rmK 0 0) s m args below meth c H locs 0 0 (MQ below (cI D ay kM NM ad r0 σ) args s 0 0 (aN NM ad)) (F0 m 226 ls []) := by
  have k_a0 := okr_in ok_a0
  unfold F_X12_count_226b at hf
  refine lv_iload_n G.hx G.hb (dcs_get dec_X12_count_2 19 rfl) rfl (lv_at hl 2 rfl) ?_
  refine lv_bipush (v := (24 : Int32)) G.hx G.hb (dcs_get dec_X12_count_2 20 rfl) (by decide) ?_
  refine lv_icmp_ge (tgt := 247) G.hx G.hb (dcs_get dec_X12_count_2 21 rfl) (by decide) (fun hc => ?_) (fun hc => ?_)
  · rw [if_pos hc] at hf
    refine lv_iload_n G.hx G.hb (dcs_get dec_X12_count_2 31 rfl) rfl (lv_at hl 1 rfl) ?_
    have e9 := hr _ (Option.some.inj hf).symm
    exact r_iret G w hm e9 rfl (dcs_get dec_X12_count_2 32 rfl)
  · rw [if_neg hc] at hf
    refine lv_iload_n G.hx G.hb (dcs_get dec_X12_count_2 22 rfl) rfl (lv_at hl 1 rfl) ?_
    refine lv_aload_n G.hx G.hb (dcs_get dec_X12_count_2 23 rfl) rfl (lv_at hl 0 rfl) ?_
    obtain ⟨z1, e_z1, ok_z1, hf⟩ := cR_some hf
    have k_z1 := okr_in ok_z1
    refine r_getr (k := 53) cls12 fi_12_53.1 fi_12_53.2 q_1061 G w k_a0.1 k_a0.2 e_z1 (dcs_get dec_X12_count_2 24 rfl) ?_
    refine lv_iload_n G.hx G.hb (dcs_get dec_X12_count_2 25 rfl) rfl (lv_at hl 2 rfl) ?_
    obtain ⟨h2, hf⟩ := cG_some hf
    refine r_iald G w k_z1.1 k_z1.2 h2 (dcs_get dec_X12_count_2 26 rfl) ?_
    refine lv_iadd G.hx G.hb (dcs_get dec_X12_count_2 27 rfl) ?_
    obtain ⟨v3, e_v3, hf⟩ := cL_some hf
    refine r_topi e_v3 ?_
    refine lv_istore_n (lv' := [(2, .int v3), (0, .ref (ad a0)), (3, .int l3)]) G.hx G.hb (dcs_get dec_X12_count_2 28 rfl) rfl hl (by decide) rfl (fun ls hl => ?_)
    obtain ⟨v4, e_v4, hf⟩ := cL_some hf
    refine lv_iinc (v := v4) (lv' := [(3, .int v4), (2, .int v3), (0, .ref (ad a0))]) G.hx G.hb (dcs_get dec_X12_count_2 29 rfl) hl (k := 2) rfl (by rw [e_v4]; rfl) (by decide) rfl (fun ls hl => ?_)
    refine lv_goto (tgt := 226) G.hx G.hb (dcs_get dec_X12_count_2 30 rfl) (by decide) ?_
    exact hb0 _ (Option.some.inj hf).symm _ _ _ w (lv_sub hl [2, 1, 0] rfl)
set_option maxRecDepth 100000 in
set_option maxHeartbeats 4000000 in
theorem H_X12_count_226 {r0 : Int32} (a0 : Nat) (σ : hSt) (G : Gx p m c cX12_count 4 s args RX12 D ay NM ad (aN NM ad)) (hm : meth.sig.returnType = (some .int) ∧ meth.locks = false) (ok_a0 : okr kM NM 12 a0 = true)  : ∀ (k : Nat) (v : Int32 × Int32), lp (S_X12_count_226 a0 σ) k v = some r0 → ∀ (H : Heap) (locs : List Loc) (ls : Array Slot), Wd D ay kM NM ad (aN NM ad) s σ H locs → lv_has ls 4 [(0, .ref (ad a0)), (2, .int v.1), (3, .int v.2)] → W p l e (rmK 0 0) s m args below meth c H locs 0 0 (MQ below (cI D ay kM NM ad r0 σ) args s 0 0 (aN NM ad)) (F0 m 226 ls []) := by
  intro k
  induction k with
  | zero => intro v hf; cases hf
  | succ k ih =>
    intro v hf H locs ls w hl
    obtain ⟨o1, h1, h2, h3⟩ := lp_some hf
    exact B_X12_count_226b a0 v.1 v.2 σ G hm ok_a0 h1  (fun v' e => ih v' (h2 v' e)) (fun x e => h3 x e) w hl
set_option maxRecDepth 100000 in
set_option maxHeartbeats 4000000 in
theorem B_X12_count_226 {H : Heap} {locs : List Loc} {ls : Array Slot} {r0 : Int32} (a0 : Nat) (l2 : Int32) (l3 : Int32) (σ : hSt) (G : Gx p m c cX12_count 4 s args RX12 D ay NM ad (aN NM ad)) (hm : meth.sig.returnType = (some .int) ∧ meth.locks = false) (ok_a0 : okr kM NM 12 a0 = true) (hf : F_X12_count_226 a0 l2 l3 σ = some r0)  (w : Wd D ay kM NM ad (aN NM ad) s σ H locs) (hl : lv_has ls 4 [(0, .ref (ad a0)), (2, .int l2), (3, .int l3)]) : W p l e (rmK 0 0) s m args below meth c H locs 0 0 (MQ below (cI D ay kM NM ad r0 σ) args s 0 0 (aN NM ad)) (F0 m 226 ls []) := by
  unfold F_X12_count_226 at hf
  exact H_X12_count_226 a0 σ G hm ok_a0  fuel (l2, l3) hf _ _ _ w hl
set_option maxRecDepth 100000 in
set_option maxHeartbeats 4000000 in
theorem B_X12_count_220 {H : Heap} {locs : List Loc} {ls : Array Slot} {r0 : Int32} (s0 : Int32) (s1 : Int32) (σ : hSt) (G : Gx p m c cX12_count 4 s args RX12 D ay NM ad (aN NM ad)) (hm : meth.sig.returnType = (some .int) ∧ meth.locks = false)  (hf : F_X12_count_220 s0 s1 σ = some r0)  (w : Wd D ay kM NM ad (aN NM ad) s σ H locs) (hl : lv_has ls 4 []) : W p l e (rmK 0 0) s m args below meth c H locs 0 0 (MQ below (cI D ay kM NM ad r0 σ) args s 0 0 (aN NM ad)) (F0 m 220 ls [.int s1, .int s0]) := by
  unfold F_X12_count_220 at hf
  refine lv_iadd G.hx G.hb (dcs_get dec_X12_count_2 13 rfl) ?_
  have e9 := Option.some.inj hf
  exact r_iret G w hm e9 rfl (dcs_get dec_X12_count_2 14 rfl)
set_option maxRecDepth 100000 in
set_option maxHeartbeats 4000000 in
theorem B_X12_count_205 {H : Heap} {locs : List Loc} {ls : Array Slot} {r0 : Int32} (a0 : Nat) (s0 : Int32) (s1 : Int32) (σ : hSt) (G : Gx p m c cX12_count 4 s args RX12 D ay NM ad (aN NM ad)) (hm : meth.sig.returnType = (some .int) ∧ meth.locks = false) (ok_a0 : okr kM NM 12 a0 = true) (hf : F_X12_count_205 a0 s0 s1 σ = some r0)  (w : Wd D ay kM NM ad (aN NM ad) s σ H locs) (hl : lv_has ls 4 [(0, .ref (ad a0))]) : W p l e (rmK 0 0) s m args below meth c H locs 0 0 (MQ below (cI D ay kM NM ad r0 σ) args s 0 0 (aN NM ad)) (F0 m 205 ls [.int s1, .int s0]) := by
  have k_a0 := okr_in ok_a0
  unfold F_X12_count_205 at hf
  refine lv_iadd G.hx G.hb (dcs_get dec_X12_count_2 4 rfl) ?_
  refine lv_aload_n G.hx G.hb (dcs_get dec_X12_count_2 5 rfl) rfl (lv_at hl 0 rfl) ?_
  obtain ⟨z5, e_z5, ok_z5, hf⟩ := cR_some hf
  have k_z5 := okr_in ok_z5
  refine r_getr (k := 67) cls12 fi_12_67.1 fi_12_67.2 q_1075 G w k_a0.1 k_a0.2 e_z5 (dcs_get dec_X12_count_2 6 rfl) ?_
  refine lv_iconst (v := (2 : Int32)) G.hx G.hb (dcs_get dec_X12_count_2 7 rfl) (by decide) ?_
  obtain ⟨h6, hf⟩ := cG_some hf
  refine r_zald G w k_z5.1 k_z5.2 h6 (dcs_get dec_X12_count_2 8 rfl) ?_
  refine lv_if_eq (tgt := 219) G.hx G.hb (dcs_get dec_X12_count_2 9 rfl) (by decide) (fun hc => ?_) (fun hc => ?_)
  · rw [if_pos hc] at hf
    refine lv_iconst (v := (0 : Int32)) G.hx G.hb (dcs_get dec_X12_count_2 12 rfl) (by decide) ?_
    exact B_X12_count_220 (s0 + s1) (0 : Int32) σ G hm  hf  w (lv_sub hl [] rfl)
  · rw [if_neg hc] at hf
    refine lv_iconst (v := (1 : Int32)) G.hx G.hb (dcs_get dec_X12_count_2 10 rfl) (by decide) ?_
    refine lv_goto (tgt := 220) G.hx G.hb (dcs_get dec_X12_count_2 11 rfl) (by decide) ?_
    exact B_X12_count_220 (s0 + s1) (1 : Int32) σ G hm  hf  w (lv_sub hl [] rfl)
set_option maxRecDepth 100000 in
set_option maxHeartbeats 4000000 in
theorem B_X12_count_191 {H : Heap} {locs : List Loc} {ls : Array Slot} {r0 : Int32} (a0 : Nat) (s0 : Int32) (σ : hSt) (G : Gx p m c cX12_count 4 s args RX12 D ay NM ad (aN NM ad)) (hm : meth.sig.returnType = (some .int) ∧ meth.locks = false) (ok_a0 : okr kM NM 12 a0 = true) (hf : F_X12_count_191 a0 s0 σ = some r0)  (w : Wd D ay kM NM ad (aN NM ad) s σ H locs) (hl : lv_has ls 4 [(0, .ref (ad a0))]) : W p l e (rmK 0 0) s m args below meth c H locs 0 0 (MQ below (cI D ay kM NM ad r0 σ) args s 0 0 (aN NM ad)) (F0 m 191 ls [.int s0]) := by
  have k_a0 := okr_in ok_a0
  unfold F_X12_count_191 at hf
  refine lv_aload_n G.hx G.hb (dcs_get dec_X12_count_1 36 rfl) rfl (lv_at hl 0 rfl) ?_
  obtain ⟨z7, e_z7, ok_z7, hf⟩ := cR_some hf
  have k_z7 := okr_in ok_z7
  refine r_getr (k := 67) cls12 fi_12_67.1 fi_12_67.2 q_1075 G w k_a0.1 k_a0.2 e_z7 (dcs_get dec_X12_count_1 37 rfl) ?_
  refine lv_iconst (v := (1 : Int32)) G.hx G.hb (dcs_get dec_X12_count_1 38 rfl) (by decide) ?_
  obtain ⟨h8, hf⟩ := cG_some hf
  refine r_zald G w k_z7.1 k_z7.2 h8 (dcs_get dec_X12_count_1 39 rfl) ?_
  refine lv_if_eq (tgt := 204) G.hx G.hb (dcs_get dec_X12_count_2 0 rfl) (by decide) (fun hc => ?_) (fun hc => ?_)
  · rw [if_pos hc] at hf
    refine lv_iconst (v := (0 : Int32)) G.hx G.hb (dcs_get dec_X12_count_2 3 rfl) (by decide) ?_
    exact B_X12_count_205 a0 s0 (0 : Int32) σ G hm ok_a0 hf  w (lv_sub hl [0] rfl)
  · rw [if_neg hc] at hf
    refine lv_iconst (v := (1 : Int32)) G.hx G.hb (dcs_get dec_X12_count_2 1 rfl) (by decide) ?_
    refine lv_goto (tgt := 205) G.hx G.hb (dcs_get dec_X12_count_2 2 rfl) (by decide) ?_
    exact B_X12_count_205 a0 s0 (1 : Int32) σ G hm ok_a0 hf  w (lv_sub hl [0] rfl)
set_option maxRecDepth 100000 in
set_option maxHeartbeats 4000000 in
theorem B_X12_count_0 {H : Heap} {locs : List Loc} {ls : Array Slot} {r0 : Int32} (a0 : Nat) (l1 : Int32) (σ : hSt) (G : Gx p m c cX12_count 4 s args RX12 D ay NM ad (aN NM ad)) (hm : meth.sig.returnType = (some .int) ∧ meth.locks = false) (ok_a0 : okr kM NM 12 a0 = true) (hf : F_X12_count a0 l1 σ = some r0)  (w : Wd D ay kM NM ad (aN NM ad) s σ H locs) (hl : lv_has ls 4 [(0, .ref (ad a0)), (1, .int l1)]) : W p l e (rmK 0 0) s m args below meth c H locs 0 0 (MQ below (cI D ay kM NM ad r0 σ) args s 0 0 (aN NM ad)) (F0 m 0 ls []) := by
  have k_a0 := okr_in ok_a0
  unfold F_X12_count at hf
  refine lv_iload_n G.hx G.hb (dcs_get dec_X12_count_0 0 rfl) rfl (lv_at hl 1 rfl) ?_
  by_cases hc0 : l1 = (0 : Int32)
  · rw [if_pos hc0] at hf
    refine r_tIn (k := (0 : Int32)) (tgt := 72) G.hx G.hb (dcs_get dec_X12_count_0 1 rfl) hc0 (by decide) rfl (by decide) ?_
    refine lv_aload_n G.hx G.hb (dcs_get dec_X12_count_0 2 rfl) rfl (lv_at hl 0 rfl) ?_
    obtain ⟨z9, e_z9, ok_z9, hf⟩ := cR_some hf
    have k_z9 := okr_in ok_z9
    refine r_getr (k := 24) cls12 fi_12_24.1 fi_12_24.2 q_1032 G w k_a0.1 k_a0.2 e_z9 (dcs_get dec_X12_count_0 3 rfl) ?_
    refine lv_aload_n G.hx G.hb (dcs_get dec_X12_count_0 4 rfl) rfl (lv_at hl 0 rfl) ?_
    refine r_geti (k := 18) cls12 fi_12_18.1 fi_12_18.2 q_1026 G w k_a0.1 k_a0.2 (dcs_get dec_X12_count_0 5 rfl) ?_
    obtain ⟨h10, hf⟩ := cG_some hf
    refine r_iald G w k_z9.1 k_z9.2 h10 (dcs_get dec_X12_count_0 6 rfl) ?_
    have e9 := Option.some.inj hf
    exact r_iret G w hm e9 rfl (dcs_get dec_X12_count_0 7 rfl)
  rw [if_neg hc0] at hf
  by_cases hc1 : l1 = (1 : Int32)
  · rw [if_pos hc1] at hf
    refine r_tIn (k := (1 : Int32)) (tgt := 82) G.hx G.hb (dcs_get dec_X12_count_0 1 rfl) hc1 (by decide) rfl (by decide) ?_
    refine lv_aload_n G.hx G.hb (dcs_get dec_X12_count_0 8 rfl) rfl (lv_at hl 0 rfl) ?_
    obtain ⟨z11, e_z11, ok_z11, hf⟩ := cR_some hf
    have k_z11 := okr_in ok_z11
    refine r_getr (k := 27) cls12 fi_12_27.1 fi_12_27.2 q_1035 G w k_a0.1 k_a0.2 e_z11 (dcs_get dec_X12_count_0 9 rfl) ?_
    refine lv_aload_n G.hx G.hb (dcs_get dec_X12_count_0 10 rfl) rfl (lv_at hl 0 rfl) ?_
    refine r_geti (k := 18) cls12 fi_12_18.1 fi_12_18.2 q_1026 G w k_a0.1 k_a0.2 (dcs_get dec_X12_count_0 11 rfl) ?_
    obtain ⟨h12, hf⟩ := cG_some hf
    refine r_iald G w k_z11.1 k_z11.2 h12 (dcs_get dec_X12_count_0 12 rfl) ?_
    have e9 := Option.some.inj hf
    exact r_iret G w hm e9 rfl (dcs_get dec_X12_count_0 13 rfl)
  rw [if_neg hc1] at hf
  by_cases hc2 : l1 = (2 : Int32)
  · rw [if_pos hc2] at hf
    refine r_tIn (k := (2 : Int32)) (tgt := 92) G.hx G.hb (dcs_get dec_X12_count_0 1 rfl) hc2 (by decide) rfl (by decide) ?_
    refine lv_aload_n G.hx G.hb (dcs_get dec_X12_count_0 14 rfl) rfl (lv_at hl 0 rfl) ?_
    obtain ⟨z13, e_z13, ok_z13, hf⟩ := cR_some hf
    have k_z13 := okr_in ok_z13
    refine r_getr (k := 53) cls12 fi_12_53.1 fi_12_53.2 q_1061 G w k_a0.1 k_a0.2 e_z13 (dcs_get dec_X12_count_0 15 rfl) ?_
    refine lv_bipush (v := (120 : Int32)) G.hx G.hb (dcs_get dec_X12_count_0 16 rfl) (by decide) ?_
    obtain ⟨h14, hf⟩ := cG_some hf
    refine r_iald G w k_z13.1 k_z13.2 h14 (dcs_get dec_X12_count_0 17 rfl) ?_
    have e9 := Option.some.inj hf
    exact r_iret G w hm e9 rfl (dcs_get dec_X12_count_0 18 rfl)
  rw [if_neg hc2] at hf
  by_cases hc3 : l1 = (3 : Int32)
  · rw [if_pos hc3] at hf
    refine r_tIn (k := (3 : Int32)) (tgt := 100) G.hx G.hb (dcs_get dec_X12_count_0 1 rfl) hc3 (by decide) rfl (by decide) ?_
    refine lv_aload_n G.hx G.hb (dcs_get dec_X12_count_0 19 rfl) rfl (lv_at hl 0 rfl) ?_
    obtain ⟨z15, e_z15, ok_z15, hf⟩ := cR_some hf
    have k_z15 := okr_in ok_z15
    refine r_getr (k := 53) cls12 fi_12_53.1 fi_12_53.2 q_1061 G w k_a0.1 k_a0.2 e_z15 (dcs_get dec_X12_count_0 20 rfl) ?_
    refine lv_bipush (v := (121 : Int32)) G.hx G.hb (dcs_get dec_X12_count_0 21 rfl) (by decide) ?_
    obtain ⟨h16, hf⟩ := cG_some hf
    refine r_iald G w k_z15.1 k_z15.2 h16 (dcs_get dec_X12_count_0 22 rfl) ?_
    have e9 := Option.some.inj hf
    exact r_iret G w hm e9 rfl (dcs_get dec_X12_count_0 23 rfl)
  rw [if_neg hc3] at hf
  by_cases hc4 : l1 = (4 : Int32)
  · rw [if_pos hc4] at hf
    refine r_tIn (k := (4 : Int32)) (tgt := 108) G.hx G.hb (dcs_get dec_X12_count_0 1 rfl) hc4 (by decide) rfl (by decide) ?_
    refine lv_aload_n G.hx G.hb (dcs_get dec_X12_count_0 24 rfl) rfl (lv_at hl 0 rfl) ?_
    obtain ⟨z17, e_z17, ok_z17, hf⟩ := cR_some hf
    have k_z17 := okr_in ok_z17
    refine r_getr (k := 53) cls12 fi_12_53.1 fi_12_53.2 q_1061 G w k_a0.1 k_a0.2 e_z17 (dcs_get dec_X12_count_0 25 rfl) ?_
    refine lv_bipush (v := (122 : Int32)) G.hx G.hb (dcs_get dec_X12_count_0 26 rfl) (by decide) ?_
    obtain ⟨h18, hf⟩ := cG_some hf
    refine r_iald G w k_z17.1 k_z17.2 h18 (dcs_get dec_X12_count_0 27 rfl) ?_
    have e9 := Option.some.inj hf
    exact r_iret G w hm e9 rfl (dcs_get dec_X12_count_0 28 rfl)
  rw [if_neg hc4] at hf
  by_cases hc5 : l1 = (5 : Int32)
  · rw [if_pos hc5] at hf
    refine r_tIn (k := (5 : Int32)) (tgt := 116) G.hx G.hb (dcs_get dec_X12_count_0 1 rfl) hc5 (by decide) rfl (by decide) ?_
    refine lv_aload_n G.hx G.hb (dcs_get dec_X12_count_0 29 rfl) rfl (lv_at hl 0 rfl) ?_
    obtain ⟨z19, e_z19, ok_z19, hf⟩ := cR_some hf
    have k_z19 := okr_in ok_z19
    refine r_getr (k := 31) cls12 fi_12_31.1 fi_12_31.2 q_1039 G w k_a0.1 k_a0.2 e_z19 (dcs_get dec_X12_count_0 30 rfl) ?_
    refine lv_aload_n G.hx G.hb (dcs_get dec_X12_count_0 31 rfl) rfl (lv_at hl 0 rfl) ?_
    refine r_geti (k := 18) cls12 fi_12_18.1 fi_12_18.2 q_1026 G w k_a0.1 k_a0.2 (dcs_get dec_X12_count_0 32 rfl) ?_
    obtain ⟨h20, hf⟩ := cG_some hf
    refine r_iald G w k_z19.1 k_z19.2 h20 (dcs_get dec_X12_count_0 33 rfl) ?_
    have e9 := Option.some.inj hf
    exact r_iret G w hm e9 rfl (dcs_get dec_X12_count_0 34 rfl)
  rw [if_neg hc5] at hf
  by_cases hc6 : l1 = (6 : Int32)
  · rw [if_pos hc6] at hf
    refine r_tIn (k := (6 : Int32)) (tgt := 126) G.hx G.hb (dcs_get dec_X12_count_0 1 rfl) hc6 (by decide) rfl (by decide) ?_
    refine lv_aload_n G.hx G.hb (dcs_get dec_X12_count_0 35 rfl) rfl (lv_at hl 0 rfl) ?_
    obtain ⟨z21, e_z21, ok_z21, hf⟩ := cR_some hf
    have k_z21 := okr_in ok_z21
    refine r_getr (k := 32) cls12 fi_12_32.1 fi_12_32.2 q_1040 G w k_a0.1 k_a0.2 e_z21 (dcs_get dec_X12_count_0 36 rfl) ?_
    refine lv_aload_n G.hx G.hb (dcs_get dec_X12_count_0 37 rfl) rfl (lv_at hl 0 rfl) ?_
    refine r_geti (k := 18) cls12 fi_12_18.1 fi_12_18.2 q_1026 G w k_a0.1 k_a0.2 (dcs_get dec_X12_count_0 38 rfl) ?_
    obtain ⟨h22, hf⟩ := cG_some hf
    refine r_iald G w k_z21.1 k_z21.2 h22 (dcs_get dec_X12_count_0 39 rfl) ?_
    have e9 := Option.some.inj hf
    exact r_iret G w hm e9 rfl (dcs_get dec_X12_count_1 0 rfl)
  rw [if_neg hc6] at hf
  by_cases hc7 : l1 = (7 : Int32)
  · rw [if_pos hc7] at hf
    refine r_tIn (k := (7 : Int32)) (tgt := 136) G.hx G.hb (dcs_get dec_X12_count_0 1 rfl) hc7 (by decide) rfl (by decide) ?_
    refine lv_aload_n G.hx G.hb (dcs_get dec_X12_count_1 1 rfl) rfl (lv_at hl 0 rfl) ?_
    obtain ⟨z23, e_z23, ok_z23, hf⟩ := cR_some hf
    have k_z23 := okr_in ok_z23
    refine r_getr (k := 29) cls12 fi_12_29.1 fi_12_29.2 q_1037 G w k_a0.1 k_a0.2 e_z23 (dcs_get dec_X12_count_1 2 rfl) ?_
    refine lv_iconst (v := (2 : Int32)) G.hx G.hb (dcs_get dec_X12_count_1 3 rfl) (by decide) ?_
    refine lv_aload_n G.hx G.hb (dcs_get dec_X12_count_1 4 rfl) rfl (lv_at hl 0 rfl) ?_
    refine r_geti (k := 18) cls12 fi_12_18.1 fi_12_18.2 q_1026 G w k_a0.1 k_a0.2 (dcs_get dec_X12_count_1 5 rfl) ?_
    refine lv_imul G.hx G.hb (dcs_get dec_X12_count_1 6 rfl) ?_
    obtain ⟨h24, hf⟩ := cG_some hf
    refine r_iald G w k_z23.1 k_z23.2 h24 (dcs_get dec_X12_count_1 7 rfl) ?_
    have e9 := Option.some.inj hf
    exact r_iret G w hm e9 rfl (dcs_get dec_X12_count_1 8 rfl)
  rw [if_neg hc7] at hf
  by_cases hc8 : l1 = (8 : Int32)
  · rw [if_pos hc8] at hf
    refine r_tIn (k := (8 : Int32)) (tgt := 148) G.hx G.hb (dcs_get dec_X12_count_0 1 rfl) hc8 (by decide) rfl (by decide) ?_
    refine lv_aload_n G.hx G.hb (dcs_get dec_X12_count_1 9 rfl) rfl (lv_at hl 0 rfl) ?_
    obtain ⟨z25, e_z25, ok_z25, hf⟩ := cR_some hf
    have k_z25 := okr_in ok_z25
    refine r_getr (k := 29) cls12 fi_12_29.1 fi_12_29.2 q_1037 G w k_a0.1 k_a0.2 e_z25 (dcs_get dec_X12_count_1 10 rfl) ?_
    refine lv_iconst (v := (2 : Int32)) G.hx G.hb (dcs_get dec_X12_count_1 11 rfl) (by decide) ?_
    refine lv_aload_n G.hx G.hb (dcs_get dec_X12_count_1 12 rfl) rfl (lv_at hl 0 rfl) ?_
    refine r_geti (k := 18) cls12 fi_12_18.1 fi_12_18.2 q_1026 G w k_a0.1 k_a0.2 (dcs_get dec_X12_count_1 13 rfl) ?_
    refine lv_imul G.hx G.hb (dcs_get dec_X12_count_1 14 rfl) ?_
    refine lv_iconst (v := (1 : Int32)) G.hx G.hb (dcs_get dec_X12_count_1 15 rfl) (by decide) ?_
    refine lv_iadd G.hx G.hb (dcs_get dec_X12_count_1 16 rfl) ?_
    obtain ⟨h26, hf⟩ := cG_some hf
    refine r_iald G w k_z25.1 k_z25.2 h26 (dcs_get dec_X12_count_1 17 rfl) ?_
    have e9 := Option.some.inj hf
    exact r_iret G w hm e9 rfl (dcs_get dec_X12_count_1 18 rfl)
  rw [if_neg hc8] at hf
  by_cases hc9 : l1 = (9 : Int32)
  · rw [if_pos hc9] at hf
    refine r_tIn (k := (9 : Int32)) (tgt := 162) G.hx G.hb (dcs_get dec_X12_count_0 1 rfl) hc9 (by decide) rfl (by decide) ?_
    refine lv_aload_n G.hx G.hb (dcs_get dec_X12_count_1 19 rfl) rfl (lv_at hl 0 rfl) ?_
    refine r_geti (k := 2) cls12 fi_12_2.1 fi_12_2.2 q_1010 G w k_a0.1 k_a0.2 (dcs_get dec_X12_count_1 20 rfl) ?_
    have e9 := Option.some.inj hf
    exact r_iret G w hm e9 rfl (dcs_get dec_X12_count_1 21 rfl)
  rw [if_neg hc9] at hf
  by_cases hc10 : l1 = (10 : Int32)
  · rw [if_pos hc10] at hf
    refine r_tIn (k := (10 : Int32)) (tgt := 167) G.hx G.hb (dcs_get dec_X12_count_0 1 rfl) hc10 (by decide) rfl (by decide) ?_
    refine lv_aload_n G.hx G.hb (dcs_get dec_X12_count_1 22 rfl) rfl (lv_at hl 0 rfl) ?_
    refine r_geti (k := 57) cls12 fi_12_57.1 fi_12_57.2 q_1065 G w k_a0.1 k_a0.2 (dcs_get dec_X12_count_1 23 rfl) ?_
    have e9 := Option.some.inj hf
    exact r_iret G w hm e9 rfl (dcs_get dec_X12_count_1 24 rfl)
  rw [if_neg hc10] at hf
  by_cases hc11 : l1 = (11 : Int32)
  · rw [if_pos hc11] at hf
    refine r_tIn (k := (11 : Int32)) (tgt := 172) G.hx G.hb (dcs_get dec_X12_count_0 1 rfl) hc11 (by decide) rfl (by decide) ?_
    refine lv_aload_n G.hx G.hb (dcs_get dec_X12_count_1 25 rfl) rfl (lv_at hl 0 rfl) ?_
    refine r_geti (k := 63) cls12 fi_12_63.1 fi_12_63.2 q_1071 G w k_a0.1 k_a0.2 (dcs_get dec_X12_count_1 26 rfl) ?_
    have e9 := Option.some.inj hf
    exact r_iret G w hm e9 rfl (dcs_get dec_X12_count_1 27 rfl)
  rw [if_neg hc11] at hf
  by_cases hc12 : l1 = (12 : Int32)
  · rw [if_pos hc12] at hf
    refine r_tIn (k := (12 : Int32)) (tgt := 177) G.hx G.hb (dcs_get dec_X12_count_0 1 rfl) hc12 (by decide) rfl (by decide) ?_
    refine lv_aload_n G.hx G.hb (dcs_get dec_X12_count_1 28 rfl) rfl (lv_at hl 0 rfl) ?_
    obtain ⟨z27, e_z27, ok_z27, hf⟩ := cR_some hf
    have k_z27 := okr_in ok_z27
    refine r_getr (k := 67) cls12 fi_12_67.1 fi_12_67.2 q_1075 G w k_a0.1 k_a0.2 e_z27 (dcs_get dec_X12_count_1 29 rfl) ?_
    refine lv_iconst (v := (0 : Int32)) G.hx G.hb (dcs_get dec_X12_count_1 30 rfl) (by decide) ?_
    obtain ⟨h28, hf⟩ := cG_some hf
    refine r_zald G w k_z27.1 k_z27.2 h28 (dcs_get dec_X12_count_1 31 rfl) ?_
    refine lv_if_eq (tgt := 190) G.hx G.hb (dcs_get dec_X12_count_1 32 rfl) (by decide) (fun hc => ?_) (fun hc => ?_)
    · rw [if_pos hc] at hf
      refine lv_iconst (v := (0 : Int32)) G.hx G.hb (dcs_get dec_X12_count_1 35 rfl) (by decide) ?_
      exact B_X12_count_191 a0 (0 : Int32) σ G hm ok_a0 hf  w (lv_sub hl [0] rfl)
    · rw [if_neg hc] at hf
      refine lv_iconst (v := (1 : Int32)) G.hx G.hb (dcs_get dec_X12_count_1 33 rfl) (by decide) ?_
      refine lv_goto (tgt := 191) G.hx G.hb (dcs_get dec_X12_count_1 34 rfl) (by decide) ?_
      exact B_X12_count_191 a0 (1 : Int32) σ G hm ok_a0 hf  w (lv_sub hl [0] rfl)
  rw [if_neg hc12] at hf
  by_cases hc13 : l1 = (13 : Int32)
  · rw [if_pos hc13] at hf
    refine r_tIn (k := (13 : Int32)) (tgt := 222) G.hx G.hb (dcs_get dec_X12_count_0 1 rfl) hc13 (by decide) rfl (by decide) ?_
    refine lv_iconst (v := (0 : Int32)) G.hx G.hb (dcs_get dec_X12_count_2 15 rfl) (by decide) ?_
    refine lv_istore_n (lv' := [(2, .int (0 : Int32)), (0, .ref (ad a0)), (1, .int l1)]) G.hx G.hb (dcs_get dec_X12_count_2 16 rfl) rfl hl (by decide) rfl (fun ls hl => ?_)
    refine lv_iconst (v := (0 : Int32)) G.hx G.hb (dcs_get dec_X12_count_2 17 rfl) (by decide) ?_
    refine lv_istore_n (lv' := [(3, .int (0 : Int32)), (2, .int (0 : Int32)), (0, .ref (ad a0)), (1, .int l1)]) G.hx G.hb (dcs_get dec_X12_count_2 18 rfl) rfl hl (by decide) rfl (fun ls hl => ?_)
    exact B_X12_count_226 a0 (0 : Int32) (0 : Int32) σ G hm ok_a0 hf  w (lv_sub hl [2, 1, 0] rfl)
  rw [if_neg hc13] at hf
  refine lv_tableOut (tgt := 249) G.hx G.hb (dcs_get dec_X12_count_0 1 rfl) (ts_out [(0 : Int32), (1 : Int32), (2 : Int32), (3 : Int32), (4 : Int32), (5 : Int32), (6 : Int32), (7 : Int32), (8 : Int32), (9 : Int32), (10 : Int32), (11 : Int32), (12 : Int32), (13 : Int32)] (by intro z h1 h2; simp only [List.map]; rcases (show z = 0 ∨ z = 1 ∨ z = 2 ∨ z = 3 ∨ z = 4 ∨ z = 5 ∨ z = 6 ∨ z = 7 ∨ z = 8 ∨ z = 9 ∨ z = 10 ∨ z = 11 ∨ z = 12 ∨ z = 13 by omega) with h4 | h4 | h4 | h4 | h4 | h4 | h4 | h4 | h4 | h4 | h4 | h4 | h4 | h4 <;> subst h4 <;> decide) (by simp only [List.forall_mem_cons]; exact ⟨hc0, hc1, hc2, hc3, hc4, hc5, hc6, hc7, hc8, hc9, hc10, hc11, hc12, hc13, fun _ h => absurd h List.not_mem_nil⟩)) (by decide) ?_
  refine lv_iconst (v := (-1 : Int32)) G.hx G.hb (dcs_get dec_X12_count_2 33 rfl) (by decide) ?_
  have e9 := Option.some.inj hf
  exact r_iret G w hm e9 rfl (dcs_get dec_X12_count_2 34 rfl)
end
set_option maxRecDepth 100000 in
set_option maxHeartbeats 4000000 in
theorem C_X12_count {l : Launch} {D : va_G} {ay : Nat → ClassId} {ad : Nat → Nat} (hi : hInj NM ad) (a0 : Nat) (l1 : Int32) (σ : hSt) {r0 : Int32} (hf : F_X12_count a0 l1 σ = some r0) (ok_a0 : okr kM NM 12 a0 = true) : hM l D ay kM NM ad yX12_count cX12_count 4 ((some .int)) (rmK 0 0) [.ref (ad a0), .int l1] σ (cI D ay kM NM ad r0 σ) := by
  refine hM_in (by decide) hi (Nat.le_of_ble_eq_true rfl) ?_
  intro p e s m below meth c G hm w ls hl
  exact B_X12_count_0 a0 l1 σ G hm ok_a0 hf w (lv_sub hl [0, 1] rfl)
