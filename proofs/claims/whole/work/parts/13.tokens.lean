/-! HillDrums.Tokens.isBlank(I)Z -/
def DL_X8_isBlank_0 : List (Nat × Instr × Nat) := [(0, .iload_n 0, 1), (1, .bipush 9, 2), (3, .if_icmp .eq 21, 3), (6, .iload_n 0, 1), (7, .bipush 10, 2), (9, .if_icmp .eq 15, 3), (12, .iload_n 0, 1), (13, .bipush 13, 2), (15, .if_icmp .eq 9, 3), (18, .iload_n 0, 1), (19, .bipush 32, 2), (21, .if_icmp .ne 7, 3), (24, .iconst 1, 1), (25, .goto 4, 3), (28, .iconst 0, 1), (29, .ireturn, 1)]
set_option maxRecDepth 100000 in
theorem dec_X8_isBlank_0 : dcs cX8_isBlank DL_X8_isBlank_0 = true := by decide +kernel
theorem lb_X8_isBlank : lkB yX8_isBlank cX8_isBlank 1 ((some .boolean)) 1 := ⟨q_465, q_7, ⟨by decide, by decide⟩, by decide +kernel⟩
def F_X8_isBlank_29 (s0 : Int32) (σ : hSt) : Option (Int32) :=
cG (isB s0) <|
some (s0)
def F_X8_isBlank_24  (σ : hSt) : Option (Int32) :=
F_X8_isBlank_29 (1 : Int32) σ
def F_X8_isBlank (l0 : Int32) (σ : hSt) : Option (Int32) :=
if l0 = (9 : Int32) then (
F_X8_isBlank_24  σ) else (
if l0 = (10 : Int32) then (
F_X8_isBlank_24  σ) else (
if l0 = (13 : Int32) then (
F_X8_isBlank_24  σ) else (
if l0 = (32 : Int32) then (
F_X8_isBlank_24  σ) else (
F_X8_isBlank_29 (0 : Int32) σ))))
section
variable {p : Program} {l : Launch} {e : Env} {s : State} {m : MethodId} {args : Array Value} {below : List Frame} {meth : Method} {c : Code} {D : va_G} {ay : Nat → ClassId} {ad : Nat → Nat}
set_option maxRecDepth 100000 in
set_option maxHeartbeats 4000000 in
theorem B_X8_isBlank_29 {H : Heap} {locs : List Loc} {ls : Array Slot} {r0 : Int32} (s0 : Int32) (σ : hSt) (G : Gx p m c cX8_isBlank 1 s args RX8 D ay NC ad (aN NC ad)) (hm : meth.sig.returnType = (some .boolean) ∧ meth.locks = false)  (hf : F_X8_isBlank_29 s0 σ = some r0)  (w : Wd D ay kC NC ad (aN NC ad) s σ H locs) (hl : lv_has ls 1 []) : W p l e (rmK 0 0) s m args below meth c H locs 0 0 (MQ below (cI D ay kC NC ad r0 σ) args s 0 0 (aN NC ad)) (F0 m 29 ls [.int s0]) := by
  unfold F_X8_isBlank_29 at hf
  obtain ⟨h1, hf⟩ := cG_some hf
  have e9 := Option.some.inj hf
  exact r_zret (isB_nar h1) G w hm e9 rfl (dcs_get dec_X8_isBlank_0 15 rfl)
set_option maxRecDepth 100000 in
set_option maxHeartbeats 4000000 in
theorem B_X8_isBlank_24 {H : Heap} {locs : List Loc} {ls : Array Slot} {r0 : Int32}  (σ : hSt) (G : Gx p m c cX8_isBlank 1 s args RX8 D ay NC ad (aN NC ad)) (hm : meth.sig.returnType = (some .boolean) ∧ meth.locks = false)  (hf : F_X8_isBlank_24  σ = some r0)  (w : Wd D ay kC NC ad (aN NC ad) s σ H locs) (hl : lv_has ls 1 []) : W p l e (rmK 0 0) s m args below meth c H locs 0 0 (MQ below (cI D ay kC NC ad r0 σ) args s 0 0 (aN NC ad)) (F0 m 24 ls []) := by
  unfold F_X8_isBlank_24 at hf
  refine lv_iconst (v := (1 : Int32)) G.hx G.hb (dcs_get dec_X8_isBlank_0 12 rfl) (by decide) ?_
  refine lv_goto (tgt := 29) G.hx G.hb (dcs_get dec_X8_isBlank_0 13 rfl) (by decide) ?_
  exact B_X8_isBlank_29 (1 : Int32) σ G hm  hf  w (lv_sub hl [] rfl)
set_option maxRecDepth 100000 in
set_option maxHeartbeats 4000000 in
theorem B_X8_isBlank_0 {H : Heap} {locs : List Loc} {ls : Array Slot} {r0 : Int32} (l0 : Int32) (σ : hSt) (G : Gx p m c cX8_isBlank 1 s args RX8 D ay NC ad (aN NC ad)) (hm : meth.sig.returnType = (some .boolean) ∧ meth.locks = false)  (hf : F_X8_isBlank l0 σ = some r0)  (w : Wd D ay kC NC ad (aN NC ad) s σ H locs) (hl : lv_has ls 1 [(0, .int l0)]) : W p l e (rmK 0 0) s m args below meth c H locs 0 0 (MQ below (cI D ay kC NC ad r0 σ) args s 0 0 (aN NC ad)) (F0 m 0 ls []) := by
  unfold F_X8_isBlank at hf
  refine lv_iload_n G.hx G.hb (dcs_get dec_X8_isBlank_0 0 rfl) rfl (lv_at hl 0 rfl) ?_
  refine lv_bipush (v := (9 : Int32)) G.hx G.hb (dcs_get dec_X8_isBlank_0 1 rfl) (by decide) ?_
  refine lv_icmp_eq (tgt := 24) G.hx G.hb (dcs_get dec_X8_isBlank_0 2 rfl) (by decide) (fun hc => ?_) (fun hc => ?_)
  · rw [if_pos hc] at hf
    exact B_X8_isBlank_24  σ G hm  hf  w (lv_sub hl [] rfl)
  · rw [if_neg hc] at hf
    refine lv_iload_n G.hx G.hb (dcs_get dec_X8_isBlank_0 3 rfl) rfl (lv_at hl 0 rfl) ?_
    refine lv_bipush (v := (10 : Int32)) G.hx G.hb (dcs_get dec_X8_isBlank_0 4 rfl) (by decide) ?_
    refine lv_icmp_eq (tgt := 24) G.hx G.hb (dcs_get dec_X8_isBlank_0 5 rfl) (by decide) (fun hc => ?_) (fun hc => ?_)
    · rw [if_pos hc] at hf
      exact B_X8_isBlank_24  σ G hm  hf  w (lv_sub hl [] rfl)
    · rw [if_neg hc] at hf
      refine lv_iload_n G.hx G.hb (dcs_get dec_X8_isBlank_0 6 rfl) rfl (lv_at hl 0 rfl) ?_
      refine lv_bipush (v := (13 : Int32)) G.hx G.hb (dcs_get dec_X8_isBlank_0 7 rfl) (by decide) ?_
      refine lv_icmp_eq (tgt := 24) G.hx G.hb (dcs_get dec_X8_isBlank_0 8 rfl) (by decide) (fun hc => ?_) (fun hc => ?_)
      · rw [if_pos hc] at hf
        exact B_X8_isBlank_24  σ G hm  hf  w (lv_sub hl [] rfl)
      · rw [if_neg hc] at hf
        refine lv_iload_n G.hx G.hb (dcs_get dec_X8_isBlank_0 9 rfl) rfl (lv_at hl 0 rfl) ?_
        refine lv_bipush (v := (32 : Int32)) G.hx G.hb (dcs_get dec_X8_isBlank_0 10 rfl) (by decide) ?_
        refine lv_icmp_ne (tgt := 28) G.hx G.hb (dcs_get dec_X8_isBlank_0 11 rfl) (by decide) (fun hc => ?_) (fun hc => ?_)
        · rw [if_neg hc] at hf
          refine lv_iconst (v := (0 : Int32)) G.hx G.hb (dcs_get dec_X8_isBlank_0 14 rfl) (by decide) ?_
          exact B_X8_isBlank_29 (0 : Int32) σ G hm  hf  w (lv_sub hl [] rfl)
        · rw [if_pos hc] at hf
          exact B_X8_isBlank_24  σ G hm  hf  w (lv_sub hl [] rfl)
end
set_option maxRecDepth 100000 in
set_option maxHeartbeats 4000000 in
theorem C_X8_isBlank {l : Launch} {D : va_G} {ay : Nat → ClassId} {ad : Nat → Nat} (hi : hInj NC ad) (l0 : Int32) (σ : hSt) {r0 : Int32} (hf : F_X8_isBlank l0 σ = some r0)  : hM l D ay kC NC ad yX8_isBlank cX8_isBlank 1 ((some .boolean)) (rmK 0 0) [.int l0] σ (cI D ay kC NC ad r0 σ) := by
  refine hM_in (by decide) hi (Nat.le_of_ble_eq_true rfl) ?_
  intro p e s m below meth c G hm w ls hl
  exact B_X8_isBlank_0 l0 σ G hm  hf w (lv_sub hl [0] rfl)

/-! HillDrums.Tokens.pastBlanks(LHillDrums$Tape;I)I -/
def DL_X8_pastBlanks_0 : List (Nat × Instr × Nat) := [(0, .iload_n 1, 1), (1, .istore_n 2, 1), (2, .iload_n 2, 1), (3, .aload_n 0, 1), (4, .getfield 30, 3), (7, .if_icmp .ge 20, 3), (10, .aload_n 0, 1), (11, .iload_n 2, 1), (12, .invokevirtual 36, 3), (15, .invokestatic 40, 3), (18, .ifCond .eq 9, 3), (21, .iinc 2 1, 3), (24, .goto (-22), 3), (27, .iload_n 2, 1), (28, .ireturn, 1)]
set_option maxRecDepth 100000 in
theorem dec_X8_pastBlanks_0 : dcs cX8_pastBlanks DL_X8_pastBlanks_0 = true := by decide +kernel
theorem lb_X8_pastBlanks : lkB yX8_pastBlanks cX8_pastBlanks 3 ((some .int)) 2 := ⟨q_458, q_7, ⟨by decide, by decide⟩, by decide +kernel⟩
def F_X8_pastBlanks_27 (l2 : Int32) (σ : hSt) : Option (Int32) :=
some (l2)
def F_X8_pastBlanks_2b (a0 : Nat) (l2 : Int32) (σ : hSt) : Option ((Int32) ⊕ (Int32)) :=
if (σ.1 a0 1) ≤ l2 then (
(F_X8_pastBlanks_27 l2 σ).map (fun x => .inr (x))) else (
(F_X6_byteAt a0 l2 σ).bind fun v2 =>
(F_X8_isBlank v2 σ).bind fun v4 =>
if v4 = 0 then (
(F_X8_pastBlanks_27 l2 σ).map (fun x => .inr (x))) else (
cL (l2 + (1 : Int32)) fun v5 =>
some (.inl (v5))))
def S_X8_pastBlanks_2 (a0 : Nat) (σ : hSt) (v : Int32) : Option ((Int32) ⊕ (Int32)) := F_X8_pastBlanks_2b a0 v σ
def F_X8_pastBlanks_2 (a0 : Nat) (l2 : Int32) (σ : hSt) : Option (Int32) := lp (S_X8_pastBlanks_2 a0 σ) fuel (l2)
def F_X8_pastBlanks (a0 : Nat) (l1 : Int32) (σ : hSt) : Option (Int32) :=
F_X8_pastBlanks_2 a0 l1 σ
section
variable {p : Program} {l : Launch} {e : Env} {s : State} {m : MethodId} {args : Array Value} {below : List Frame} {meth : Method} {c : Code} {D : va_G} {ay : Nat → ClassId} {ad : Nat → Nat}
set_option maxRecDepth 100000 in
set_option maxHeartbeats 4000000 in
theorem B_X8_pastBlanks_27 {H : Heap} {locs : List Loc} {ls : Array Slot} {r0 : Int32} (l2 : Int32) (σ : hSt) (G : Gx p m c cX8_pastBlanks 3 s args RX8 D ay NC ad (aN NC ad)) (hm : meth.sig.returnType = (some .int) ∧ meth.locks = false)  (hf : F_X8_pastBlanks_27 l2 σ = some r0)  (w : Wd D ay kC NC ad (aN NC ad) s σ H locs) (hl : lv_has ls 3 [(2, .int l2)]) : W p l e (rmK 1 21) s m args below meth c H locs 0 0 (MQ below (cI D ay kC NC ad r0 σ) args s 0 0 (aN NC ad)) (F0 m 27 ls []) := by
  unfold F_X8_pastBlanks_27 at hf
  refine lv_iload_n G.hx G.hb (dcs_get dec_X8_pastBlanks_0 13 rfl) rfl (lv_at hl 0 rfl) ?_
  have e9 := Option.some.inj hf
  exact r_iret G w hm e9 rfl (dcs_get dec_X8_pastBlanks_0 14 rfl)
set_option maxRecDepth 100000 in
set_option maxHeartbeats 4000000 in
theorem B_X8_pastBlanks_2b {H : Heap} {locs : List Loc} {ls : Array Slot} {r0 : Int32} {o : (Int32) ⊕ (Int32)} (a0 : Nat) (l2 : Int32) (σ : hSt) (G : Gx p m c cX8_pastBlanks 3 s args RX8 D ay NC ad (aN NC ad)) (hm : meth.sig.returnType = (some .int) ∧ meth.locks = false) (ok_a0 : okr kC NC 6 a0 = true) (hf : F_X8_pastBlanks_2b a0 l2 σ = some o) (hb0 : ∀ (v : Int32), o = .inl v → ∀ (H : Heap) (locs : List Loc) (ls : Array Slot), Wd D ay kC NC ad (aN NC ad) s σ H locs → lv_has ls 3 [(0, .ref (ad a0)), (2, .int v)] → W p l e (rmK 1 21) s m args below meth c H locs 0 0 (MQ below (cI D ay kC NC ad r0 σ) args s 0 0 (aN NC ad)) (F0 m 2 ls [])) (hr : ∀ x, o = .inr (x) → x = r0) (w : Wd D ay kC NC ad (aN NC ad) s σ H locs) (hl : lv_has ls 3 [(0, .ref (ad a0)), (2, .int l2)]) : W p l e (rmK 1 21) s m args below meth c H locs 0 0 (MQ below (cI D ay kC NC ad r0 σ) args s 0 0 (aN NC ad)) (F0 m 2 ls []) := by
  have k_a0 := okr_in ok_a0
  unfold F_X8_pastBlanks_2b at hf
  refine lv_iload_n G.hx G.hb (dcs_get dec_X8_pastBlanks_0 2 rfl) rfl (lv_at hl 1 rfl) ?_
  refine lv_aload_n G.hx G.hb (dcs_get dec_X8_pastBlanks_0 3 rfl) rfl (lv_at hl 0 rfl) ?_
  refine r_getiN (k := 1) cls6 fi_6_1.1 fi_6_1.2 nf_40 G w k_a0.1 k_a0.2 (dcs_get dec_X8_pastBlanks_0 4 rfl) ?_
  refine lv_icmp_ge (tgt := 27) G.hx G.hb (dcs_get dec_X8_pastBlanks_0 5 rfl) (by decide) (fun hc => ?_) (fun hc => ?_)
  · rw [if_pos hc] at hf
    obtain ⟨x9, h9, e9⟩ := map_some_inv hf
    subst e9
    have e8 := hr _ rfl
    rw [e8] at h9
    exact B_X8_pastBlanks_27 l2 σ G hm  h9 w (lv_sub hl [1] rfl)
  · rw [if_neg hc] at hf
    refine lv_aload_n G.hx G.hb (dcs_get dec_X8_pastBlanks_0 6 rfl) rfl (lv_at hl 0 rfl) ?_
    refine lv_iload_n G.hx G.hb (dcs_get dec_X8_pastBlanks_0 7 rfl) rfl (lv_at hl 1 rfl) ?_
    obtain ⟨v2, h1, hf⟩ := cB_some hf
    refine a_i (k_VN (As := [.int l2]) (rest := []) cls6 lb_X6_byteAt lv_X6_byteAt nm_459 (C_X6_byteAt G.2.2.1 a0 l2 σ h1 ok_a0) ⟨(Nat.le_of_ble_eq_true rfl), (Nat.le_of_ble_eq_true rfl)⟩ G w k_a0.1 k_a0.2 rfl rfl hl.1 (Nat.le_of_ble_eq_true rfl) (dcs_get dec_X8_pastBlanks_0 8 rfl) ⟨Nat.le_refl _, Nat.le_refl _⟩) G w (fun H locs w => ?_)
    obtain ⟨v4, h3, hf⟩ := cB_some hf
    refine a_i (k_S (As := [.int v2]) (rest := []) lb_X8_isBlank q_464 q_463 (C_X8_isBlank G.2.2.1 v2 σ h3 ) ⟨(Nat.le_of_ble_eq_true rfl), (Nat.le_of_ble_eq_true rfl)⟩ G w rfl rfl hl.1 (Nat.le_of_ble_eq_true rfl) (dcs_get dec_X8_pastBlanks_0 9 rfl) ⟨Nat.le_refl _, Nat.le_refl _⟩) G w (fun H locs w => ?_)
    refine lv_if_eq (tgt := 27) G.hx G.hb (dcs_get dec_X8_pastBlanks_0 10 rfl) (by decide) (fun hc => ?_) (fun hc => ?_)
    · rw [if_pos hc] at hf
      obtain ⟨x9, h9, e9⟩ := map_some_inv hf
      subst e9
      have e8 := hr _ rfl
      rw [e8] at h9
      exact B_X8_pastBlanks_27 l2 σ G hm  h9 w (lv_sub hl [1] rfl)
    · rw [if_neg hc] at hf
      obtain ⟨v5, e_v5, hf⟩ := cL_some hf
      refine lv_iinc (v := v5) (lv' := [(2, .int v5), (0, .ref (ad a0))]) G.hx G.hb (dcs_get dec_X8_pastBlanks_0 11 rfl) hl (k := 1) rfl (by rw [e_v5]; rfl) (by decide) rfl (fun ls hl => ?_)
      refine lv_goto (tgt := 2) G.hx G.hb (dcs_get dec_X8_pastBlanks_0 12 rfl) (by decide) ?_
      exact hb0 _ (Option.some.inj hf).symm _ _ _ w (lv_sub hl [1, 0] rfl)
set_option maxRecDepth 100000 in
set_option maxHeartbeats 4000000 in
theorem H_X8_pastBlanks_2 {r0 : Int32} (a0 : Nat) (σ : hSt) (G : Gx p m c cX8_pastBlanks 3 s args RX8 D ay NC ad (aN NC ad)) (hm : meth.sig.returnType = (some .int) ∧ meth.locks = false) (ok_a0 : okr kC NC 6 a0 = true)  : ∀ (k : Nat) (v : Int32), lp (S_X8_pastBlanks_2 a0 σ) k v = some r0 → ∀ (H : Heap) (locs : List Loc) (ls : Array Slot), Wd D ay kC NC ad (aN NC ad) s σ H locs → lv_has ls 3 [(0, .ref (ad a0)), (2, .int v)] → W p l e (rmK 1 21) s m args below meth c H locs 0 0 (MQ below (cI D ay kC NC ad r0 σ) args s 0 0 (aN NC ad)) (F0 m 2 ls []) := by
  intro k
  induction k with
  | zero => intro v hf; cases hf
  | succ k ih =>
    intro v hf H locs ls w hl
    obtain ⟨o1, h1, h2, h3⟩ := lp_some hf
    exact B_X8_pastBlanks_2b a0 v σ G hm ok_a0 h1  (fun v' e => ih v' (h2 v' e)) (fun x e => h3 x e) w hl
set_option maxRecDepth 100000 in
set_option maxHeartbeats 4000000 in
theorem B_X8_pastBlanks_2 {H : Heap} {locs : List Loc} {ls : Array Slot} {r0 : Int32} (a0 : Nat) (l2 : Int32) (σ : hSt) (G : Gx p m c cX8_pastBlanks 3 s args RX8 D ay NC ad (aN NC ad)) (hm : meth.sig.returnType = (some .int) ∧ meth.locks = false) (ok_a0 : okr kC NC 6 a0 = true) (hf : F_X8_pastBlanks_2 a0 l2 σ = some r0)  (w : Wd D ay kC NC ad (aN NC ad) s σ H locs) (hl : lv_has ls 3 [(0, .ref (ad a0)), (2, .int l2)]) : W p l e (rmK 1 21) s m args below meth c H locs 0 0 (MQ below (cI D ay kC NC ad r0 σ) args s 0 0 (aN NC ad)) (F0 m 2 ls []) := by
  unfold F_X8_pastBlanks_2 at hf
  exact H_X8_pastBlanks_2 a0 σ G hm ok_a0  fuel (l2) hf _ _ _ w hl
set_option maxRecDepth 100000 in
set_option maxHeartbeats 4000000 in
theorem B_X8_pastBlanks_0 {H : Heap} {locs : List Loc} {ls : Array Slot} {r0 : Int32} (a0 : Nat) (l1 : Int32) (σ : hSt) (G : Gx p m c cX8_pastBlanks 3 s args RX8 D ay NC ad (aN NC ad)) (hm : meth.sig.returnType = (some .int) ∧ meth.locks = false) (ok_a0 : okr kC NC 6 a0 = true) (hf : F_X8_pastBlanks a0 l1 σ = some r0)  (w : Wd D ay kC NC ad (aN NC ad) s σ H locs) (hl : lv_has ls 3 [(0, .ref (ad a0)), (1, .int l1)]) : W p l e (rmK 1 21) s m args below meth c H locs 0 0 (MQ below (cI D ay kC NC ad r0 σ) args s 0 0 (aN NC ad)) (F0 m 0 ls []) := by
  have k_a0 := okr_in ok_a0
  unfold F_X8_pastBlanks at hf
  refine lv_iload_n G.hx G.hb (dcs_get dec_X8_pastBlanks_0 0 rfl) rfl (lv_at hl 1 rfl) ?_
  refine lv_istore_n (lv' := [(2, .int l1), (0, .ref (ad a0)), (1, .int l1)]) G.hx G.hb (dcs_get dec_X8_pastBlanks_0 1 rfl) rfl hl (by decide) rfl (fun ls hl => ?_)
  exact B_X8_pastBlanks_2 a0 l1 σ G hm ok_a0 hf  w (lv_sub hl [1, 0] rfl)
end
set_option maxRecDepth 100000 in
set_option maxHeartbeats 4000000 in
theorem C_X8_pastBlanks {l : Launch} {D : va_G} {ay : Nat → ClassId} {ad : Nat → Nat} (hi : hInj NC ad) (a0 : Nat) (l1 : Int32) (σ : hSt) {r0 : Int32} (hf : F_X8_pastBlanks a0 l1 σ = some r0) (ok_a0 : okr kC NC 6 a0 = true) : hM l D ay kC NC ad yX8_pastBlanks cX8_pastBlanks 3 ((some .int)) (rmK 1 21) [.ref (ad a0), .int l1] σ (cI D ay kC NC ad r0 σ) := by
  refine hM_in (by decide) hi (Nat.le_of_ble_eq_true rfl) ?_
  intro p e s m below meth c G hm w ls hl
  exact B_X8_pastBlanks_0 a0 l1 σ G hm ok_a0 hf w (lv_sub hl [0, 1] rfl)

/-! HillDrums.Tokens.isLetter(I)Z -/
def DL_X8_isLetter_0 : List (Nat × Instr × Nat) := [(0, .iload_n 0, 1), (1, .bipush 97, 2), (3, .if_icmp .lt 13, 3), (6, .iload_n 0, 1), (7, .bipush 122, 2), (9, .if_icmp .gt 7, 3), (12, .iconst 1, 1), (13, .goto 4, 3), (16, .iconst 0, 1), (17, .ireturn, 1)]
set_option maxRecDepth 100000 in
theorem dec_X8_isLetter_0 : dcs cX8_isLetter DL_X8_isLetter_0 = true := by decide +kernel
theorem lb_X8_isLetter : lkB yX8_isLetter cX8_isLetter 1 ((some .boolean)) 1 := ⟨q_472, q_7, ⟨by decide, by decide⟩, by decide +kernel⟩
def F_X8_isLetter_17 (s0 : Int32) (σ : hSt) : Option (Int32) :=
cG (isB s0) <|
some (s0)
def F_X8_isLetter_16  (σ : hSt) : Option (Int32) :=
F_X8_isLetter_17 (0 : Int32) σ
def F_X8_isLetter (l0 : Int32) (σ : hSt) : Option (Int32) :=
if l0 < (97 : Int32) then (
F_X8_isLetter_16  σ) else (
if (122 : Int32) < l0 then (
F_X8_isLetter_16  σ) else (
F_X8_isLetter_17 (1 : Int32) σ))
section
variable {p : Program} {l : Launch} {e : Env} {s : State} {m : MethodId} {args : Array Value} {below : List Frame} {meth : Method} {c : Code} {D : va_G} {ay : Nat → ClassId} {ad : Nat → Nat}
set_option maxRecDepth 100000 in
set_option maxHeartbeats 4000000 in
theorem B_X8_isLetter_17 {H : Heap} {locs : List Loc} {ls : Array Slot} {r0 : Int32} (s0 : Int32) (σ : hSt) (G : Gx p m c cX8_isLetter 1 s args RX8 D ay NC ad (aN NC ad)) (hm : meth.sig.returnType = (some .boolean) ∧ meth.locks = false)  (hf : F_X8_isLetter_17 s0 σ = some r0)  (w : Wd D ay kC NC ad (aN NC ad) s σ H locs) (hl : lv_has ls 1 []) : W p l e (rmK 0 0) s m args below meth c H locs 0 0 (MQ below (cI D ay kC NC ad r0 σ) args s 0 0 (aN NC ad)) (F0 m 17 ls [.int s0]) := by
  unfold F_X8_isLetter_17 at hf
  obtain ⟨h1, hf⟩ := cG_some hf
  have e9 := Option.some.inj hf
  exact r_zret (isB_nar h1) G w hm e9 rfl (dcs_get dec_X8_isLetter_0 9 rfl)
set_option maxRecDepth 100000 in
set_option maxHeartbeats 4000000 in
theorem B_X8_isLetter_16 {H : Heap} {locs : List Loc} {ls : Array Slot} {r0 : Int32}  (σ : hSt) (G : Gx p m c cX8_isLetter 1 s args RX8 D ay NC ad (aN NC ad)) (hm : meth.sig.returnType = (some .boolean) ∧ meth.locks = false)  (hf : F_X8_isLetter_16  σ = some r0)  (w : Wd D ay kC NC ad (aN NC ad) s σ H locs) (hl : lv_has ls 1 []) : W p l e (rmK 0 0) s m args below meth c H locs 0 0 (MQ below (cI D ay kC NC ad r0 σ) args s 0 0 (aN NC ad)) (F0 m 16 ls []) := by
  unfold F_X8_isLetter_16 at hf
  refine lv_iconst (v := (0 : Int32)) G.hx G.hb (dcs_get dec_X8_isLetter_0 8 rfl) (by decide) ?_
  exact B_X8_isLetter_17 (0 : Int32) σ G hm  hf  w (lv_sub hl [] rfl)
set_option maxRecDepth 100000 in
set_option maxHeartbeats 4000000 in
theorem B_X8_isLetter_0 {H : Heap} {locs : List Loc} {ls : Array Slot} {r0 : Int32} (l0 : Int32) (σ : hSt) (G : Gx p m c cX8_isLetter 1 s args RX8 D ay NC ad (aN NC ad)) (hm : meth.sig.returnType = (some .boolean) ∧ meth.locks = false)  (hf : F_X8_isLetter l0 σ = some r0)  (w : Wd D ay kC NC ad (aN NC ad) s σ H locs) (hl : lv_has ls 1 [(0, .int l0)]) : W p l e (rmK 0 0) s m args below meth c H locs 0 0 (MQ below (cI D ay kC NC ad r0 σ) args s 0 0 (aN NC ad)) (F0 m 0 ls []) := by
  unfold F_X8_isLetter at hf
  refine lv_iload_n G.hx G.hb (dcs_get dec_X8_isLetter_0 0 rfl) rfl (lv_at hl 0 rfl) ?_
  refine lv_bipush (v := (97 : Int32)) G.hx G.hb (dcs_get dec_X8_isLetter_0 1 rfl) (by decide) ?_
  refine lv_icmp_lt (tgt := 16) G.hx G.hb (dcs_get dec_X8_isLetter_0 2 rfl) (by decide) (fun hc => ?_) (fun hc => ?_)
  · rw [if_pos hc] at hf
    exact B_X8_isLetter_16  σ G hm  hf  w (lv_sub hl [] rfl)
  · rw [if_neg hc] at hf
    refine lv_iload_n G.hx G.hb (dcs_get dec_X8_isLetter_0 3 rfl) rfl (lv_at hl 0 rfl) ?_
    refine lv_bipush (v := (122 : Int32)) G.hx G.hb (dcs_get dec_X8_isLetter_0 4 rfl) (by decide) ?_
    refine lv_icmp_gt (tgt := 16) G.hx G.hb (dcs_get dec_X8_isLetter_0 5 rfl) (by decide) (fun hc => ?_) (fun hc => ?_)
    · rw [if_pos hc] at hf
      exact B_X8_isLetter_16  σ G hm  hf  w (lv_sub hl [] rfl)
    · rw [if_neg hc] at hf
      refine lv_iconst (v := (1 : Int32)) G.hx G.hb (dcs_get dec_X8_isLetter_0 6 rfl) (by decide) ?_
      refine lv_goto (tgt := 17) G.hx G.hb (dcs_get dec_X8_isLetter_0 7 rfl) (by decide) ?_
      exact B_X8_isLetter_17 (1 : Int32) σ G hm  hf  w (lv_sub hl [] rfl)
end
set_option maxRecDepth 100000 in
set_option maxHeartbeats 4000000 in
theorem C_X8_isLetter {l : Launch} {D : va_G} {ay : Nat → ClassId} {ad : Nat → Nat} (hi : hInj NC ad) (l0 : Int32) (σ : hSt) {r0 : Int32} (hf : F_X8_isLetter l0 σ = some r0)  : hM l D ay kC NC ad yX8_isLetter cX8_isLetter 1 ((some .boolean)) (rmK 0 0) [.int l0] σ (cI D ay kC NC ad r0 σ) := by
  refine hM_in (by decide) hi (Nat.le_of_ble_eq_true rfl) ?_
  intro p e s m below meth c G hm w ls hl
  exact B_X8_isLetter_0 l0 σ G hm  hf w (lv_sub hl [0] rfl)

/-! HillDrums.Tokens.wordOrName(LHillDrums$Tape;II)I -/
def DL_X8_wordOrName_0 : List (Nat × Instr × Nat) := [(0, .iconst 0, 1), (1, .istore_n 3, 1), (2, .iload_n 3, 1), (3, .bipush 19, 2), (5, .if_icmp .ge 91, 3), (8, .iconst 1, 1), (9, .istore 4, 2), (11, .iconst 0, 1), (12, .istore 5, 2), (14, .iload 5, 2), (16, .bipush 8, 2), (18, .if_icmp .ge 61, 3), (21, .iload 4, 2), (23, .ifCond .eq 56, 3), (26, .iload_n 1, 1), (27, .iload 5, 2), (29, .iadd, 1), (30, .iload_n 2, 1), (31, .if_icmp .ge 14, 3), (34, .aload_n 0, 1), (35, .iload_n 1, 1), (36, .iload 5, 2), (38, .iadd, 1), (39, .invokevirtual 36, 3), (42, .goto 5, 3), (45, .bipush 32, 2), (47, .istore 6, 2), (49, .ldc 68, 2), (51, .bipush 8, 2), (53, .iload_n 3, 1), (54, .imul, 1), (55, .iload 5, 2), (57, .iadd, 1), (58, .invokevirtual 70, 3), (61, .iload 6, 2), (63, .if_icmp .ne 7, 3), (66, .iconst 1, 1), (67, .goto 4, 3), (70, .iconst 0, 1), (71, .istore 4, 2)]
set_option maxRecDepth 100000 in
theorem dec_X8_wordOrName_0 : dcs cX8_wordOrName DL_X8_wordOrName_0 = true := by decide +kernel
def DL_X8_wordOrName_1 : List (Nat × Instr × Nat) := [(73, .iinc 5 1, 3), (76, .goto (-62), 3), (79, .iload 4, 2), (81, .ifCond .eq 9, 3), (84, .sipush 128, 3), (87, .iload_n 3, 1), (88, .iadd, 1), (89, .ireturn, 1), (90, .iinc 3 1, 3), (93, .goto (-91), 3), (96, .iconst 2, 1), (97, .ireturn, 1)]
set_option maxRecDepth 100000 in
theorem dec_X8_wordOrName_1 : dcs cX8_wordOrName DL_X8_wordOrName_1 = true := by decide +kernel
theorem lb_X8_wordOrName : lkB yX8_wordOrName cX8_wordOrName 7 ((some .int)) 3 := ⟨q_480, q_7, ⟨by decide, by decide⟩, by decide +kernel⟩
def F_X8_wordOrName_71 (a0 : Nat) (l1 : Int32) (l2 : Int32) (l3 : Int32) (l5 : Int32) (s0 : Int32) (σ : hSt) : Option ((Int32 × Int32) ⊕ ((Int32) ⊕ (Int32))) :=
cL (l5 + (1 : Int32)) fun v1 =>
some (.inl (s0, v1))
def F_X8_wordOrName_47 (a0 : Nat) (l1 : Int32) (l2 : Int32) (l3 : Int32) (l5 : Int32) (s0 : Int32) (σ : hSt) : Option ((Int32 × Int32) ⊕ ((Int32) ⊕ (Int32))) :=
cG (inb (((8 : Int32) * l3) + l5) 152) <|
if (wordsAt (((8 : Int32) * l3) + l5).toNatClampNeg) = s0 then (
F_X8_wordOrName_71 a0 l1 l2 l3 l5 (1 : Int32) σ) else (
F_X8_wordOrName_71 a0 l1 l2 l3 l5 (0 : Int32) σ)
def F_X8_wordOrName_79 (a0 : Nat) (l1 : Int32) (l2 : Int32) (l3 : Int32) (l4 : Int32) (σ : hSt) : Option ((Int32) ⊕ (Int32)) :=
if l4 = 0 then (
cL (l3 + (1 : Int32)) fun v4 =>
some (.inl (v4))) else (
some (.inr ((128 : Int32) + l3)))
def F_X8_wordOrName_14b (a0 : Nat) (l1 : Int32) (l2 : Int32) (l3 : Int32) (l4 : Int32) (l5 : Int32) (σ : hSt) : Option ((Int32 × Int32) ⊕ ((Int32) ⊕ (Int32))) :=
if (8 : Int32) ≤ l5 then (
(F_X8_wordOrName_79 a0 l1 l2 l3 l4 σ).map (fun x => .inr (x))) else (
if l4 = 0 then (
(F_X8_wordOrName_79 a0 l1 l2 l3 l4 σ).map (fun x => .inr (x))) else (
if l2 ≤ (l1 + l5) then (
F_X8_wordOrName_47 a0 l1 l2 l3 l5 (32 : Int32) σ) else (
(F_X6_byteAt a0 (l1 + l5) σ).bind fun v6 =>
F_X8_wordOrName_47 a0 l1 l2 l3 l5 v6 σ)))
def S_X8_wordOrName_14 (a0 : Nat) (l1 : Int32) (l2 : Int32) (l3 : Int32) (σ : hSt) (v : Int32 × Int32) : Option ((Int32 × Int32) ⊕ ((Int32) ⊕ (Int32))) := F_X8_wordOrName_14b a0 l1 l2 l3 v.1 v.2 σ
def F_X8_wordOrName_14 (a0 : Nat) (l1 : Int32) (l2 : Int32) (l3 : Int32) (l4 : Int32) (l5 : Int32) (σ : hSt) : Option ((Int32) ⊕ (Int32)) := lp (S_X8_wordOrName_14 a0 l1 l2 l3 σ) fuel (l4, l5)
def F_X8_wordOrName_2b (a0 : Nat) (l1 : Int32) (l2 : Int32) (l3 : Int32) (σ : hSt) : Option ((Int32) ⊕ (Int32)) :=
if (19 : Int32) ≤ l3 then (
some (.inr ((2 : Int32)))) else (
F_X8_wordOrName_14 a0 l1 l2 l3 (1 : Int32) (0 : Int32) σ)
def S_X8_wordOrName_2 (a0 : Nat) (l1 : Int32) (l2 : Int32) (σ : hSt) (v : Int32) : Option ((Int32) ⊕ (Int32)) := F_X8_wordOrName_2b a0 l1 l2 v σ
def F_X8_wordOrName_2 (a0 : Nat) (l1 : Int32) (l2 : Int32) (l3 : Int32) (σ : hSt) : Option (Int32) := lp (S_X8_wordOrName_2 a0 l1 l2 σ) fuel (l3)
def F_X8_wordOrName (a0 : Nat) (l1 : Int32) (l2 : Int32) (σ : hSt) : Option (Int32) :=
F_X8_wordOrName_2 a0 l1 l2 (0 : Int32) σ
section
variable {p : Program} {l : Launch} {e : Env} {s : State} {m : MethodId} {args : Array Value} {below : List Frame} {meth : Method} {c : Code} {D : va_G} {ay : Nat → ClassId} {ad : Nat → Nat}
set_option maxRecDepth 100000 in
set_option maxHeartbeats 4000000 in
theorem B_X8_wordOrName_71 {H : Heap} {locs : List Loc} {ls : Array Slot} {r0 : Int32} {o : (Int32 × Int32) ⊕ ((Int32) ⊕ (Int32))} (a0 : Nat) (l1 : Int32) (l2 : Int32) (l3 : Int32) (l5 : Int32) (s0 : Int32) (σ : hSt) (G : Gx p m c cX8_wordOrName 7 s args RX8 D ay NC ad (aN NC ad)) (hm : meth.sig.returnType = (some .int) ∧ meth.locks = false) (ok_a0 : okr kC NC 6 a0 = true) (hf : F_X8_wordOrName_71 a0 l1 l2 l3 l5 s0 σ = some o) (hb0 : ∀ (v : Int32), o = .inr (.inl v) → ∀ (H : Heap) (locs : List Loc) (ls : Array Slot), Wd D ay kC NC ad (aN NC ad) s σ H locs → lv_has ls 7 [(0, .ref (ad a0)), (1, .int l1), (2, .int l2), (3, .int v)] → W p l e (rmK 6 200) s m args below meth c H locs 0 0 (MQ below (cI D ay kC NC ad r0 σ) args s 0 0 (aN NC ad)) (F0 m 2 ls [])) (hb1 : ∀ (v : Int32 × Int32), o = .inl v → ∀ (H : Heap) (locs : List Loc) (ls : Array Slot), Wd D ay kC NC ad (aN NC ad) s σ H locs → lv_has ls 7 [(0, .ref (ad a0)), (1, .int l1), (2, .int l2), (3, .int l3), (4, .int v.1), (5, .int v.2)] → W p l e (rmK 6 200) s m args below meth c H locs 0 0 (MQ below (cI D ay kC NC ad r0 σ) args s 0 0 (aN NC ad)) (F0 m 14 ls [])) (hr : ∀ x, o = .inr (.inr (x)) → x = r0) (w : Wd D ay kC NC ad (aN NC ad) s σ H locs) (hl : lv_has ls 7 [(0, .ref (ad a0)), (1, .int l1), (2, .int l2), (3, .int l3), (5, .int l5)]) : W p l e (rmK 6 200) s m args below meth c H locs 0 0 (MQ below (cI D ay kC NC ad r0 σ) args s 0 0 (aN NC ad)) (F0 m 71 ls [.int s0]) := by
  have k_a0 := okr_in ok_a0
  unfold F_X8_wordOrName_71 at hf
  refine lv_istore (lv' := [(4, .int s0), (0, .ref (ad a0)), (1, .int l1), (2, .int l2), (3, .int l3), (5, .int l5)]) G.hx G.hb (dcs_get dec_X8_wordOrName_0 39 rfl) hl (by decide) rfl (fun ls hl => ?_)
  obtain ⟨v1, e_v1, hf⟩ := cL_some hf
  refine lv_iinc (v := v1) (lv' := [(5, .int v1), (4, .int s0), (0, .ref (ad a0)), (1, .int l1), (2, .int l2), (3, .int l3)]) G.hx G.hb (dcs_get dec_X8_wordOrName_1 0 rfl) hl (k := 5) rfl (by rw [e_v1]; rfl) (by decide) rfl (fun ls hl => ?_)
  refine lv_goto (tgt := 14) G.hx G.hb (dcs_get dec_X8_wordOrName_1 1 rfl) (by decide) ?_
  exact hb1 _ (Option.some.inj hf).symm _ _ _ w (lv_sub hl [2, 3, 4, 5, 1, 0] rfl)
set_option maxRecDepth 100000 in
set_option maxHeartbeats 4000000 in
theorem B_X8_wordOrName_47 {H : Heap} {locs : List Loc} {ls : Array Slot} {r0 : Int32} {o : (Int32 × Int32) ⊕ ((Int32) ⊕ (Int32))} (a0 : Nat) (l1 : Int32) (l2 : Int32) (l3 : Int32) (l5 : Int32) (s0 : Int32) (σ : hSt) (G : Gx p m c cX8_wordOrName 7 s args RX8 D ay NC ad (aN NC ad)) (hm : meth.sig.returnType = (some .int) ∧ meth.locks = false) (ok_a0 : okr kC NC 6 a0 = true) (hf : F_X8_wordOrName_47 a0 l1 l2 l3 l5 s0 σ = some o) (hb0 : ∀ (v : Int32), o = .inr (.inl v) → ∀ (H : Heap) (locs : List Loc) (ls : Array Slot), Wd D ay kC NC ad (aN NC ad) s σ H locs → lv_has ls 7 [(0, .ref (ad a0)), (1, .int l1), (2, .int l2), (3, .int v)] → W p l e (rmK 6 200) s m args below meth c H locs 0 0 (MQ below (cI D ay kC NC ad r0 σ) args s 0 0 (aN NC ad)) (F0 m 2 ls [])) (hb1 : ∀ (v : Int32 × Int32), o = .inl v → ∀ (H : Heap) (locs : List Loc) (ls : Array Slot), Wd D ay kC NC ad (aN NC ad) s σ H locs → lv_has ls 7 [(0, .ref (ad a0)), (1, .int l1), (2, .int l2), (3, .int l3), (4, .int v.1), (5, .int v.2)] → W p l e (rmK 6 200) s m args below meth c H locs 0 0 (MQ below (cI D ay kC NC ad r0 σ) args s 0 0 (aN NC ad)) (F0 m 14 ls [])) (hr : ∀ x, o = .inr (.inr (x)) → x = r0) (w : Wd D ay kC NC ad (aN NC ad) s σ H locs) (hl : lv_has ls 7 [(0, .ref (ad a0)), (1, .int l1), (2, .int l2), (3, .int l3), (5, .int l5)]) : W p l e (rmK 6 200) s m args below meth c H locs 0 0 (MQ below (cI D ay kC NC ad r0 σ) args s 0 0 (aN NC ad)) (F0 m 47 ls [.int s0]) := by
  have k_a0 := okr_in ok_a0
  unfold F_X8_wordOrName_47 at hf
  refine lv_istore (lv' := [(6, .int s0), (0, .ref (ad a0)), (1, .int l1), (2, .int l2), (3, .int l3), (5, .int l5)]) G.hx G.hb (dcs_get dec_X8_wordOrName_0 26 rfl) hl (by decide) rfl (fun ls hl => ?_)
  refine r_ldcS0 G w (dcs_get dec_X8_wordOrName_0 27 rfl) (fun q2 h_q2 => ?_)
  refine lv_bipush (v := (8 : Int32)) G.hx G.hb (dcs_get dec_X8_wordOrName_0 28 rfl) (by decide) ?_
  refine lv_iload_n G.hx G.hb (dcs_get dec_X8_wordOrName_0 29 rfl) rfl (lv_at hl 4 rfl) ?_
  refine lv_imul G.hx G.hb (dcs_get dec_X8_wordOrName_0 30 rfl) ?_
  refine lv_iload G.hx G.hb (dcs_get dec_X8_wordOrName_0 31 rfl) (lv_at hl 5 rfl) ?_
  refine lv_iadd G.hx G.hb (dcs_get dec_X8_wordOrName_0 32 rfl) ?_
  obtain ⟨h3, hf⟩ := cG_some hf
  refine r_charAt ⟨Nat.le_of_ble_eq_true rfl, Nat.le_of_ble_eq_true rfl⟩ (Nat.le_of_ble_eq_true rfl) G w h_q2 h3 hl.1 (dcs_get dec_X8_wordOrName_0 33 rfl) (fun H locs w => ?_)
  refine lv_iload G.hx G.hb (dcs_get dec_X8_wordOrName_0 34 rfl) (lv_at hl 0 rfl) ?_
  refine lv_icmp_ne (tgt := 70) G.hx G.hb (dcs_get dec_X8_wordOrName_0 35 rfl) (by decide) (fun hc => ?_) (fun hc => ?_)
  · rw [if_neg hc] at hf
    refine lv_iconst (v := (0 : Int32)) G.hx G.hb (dcs_get dec_X8_wordOrName_0 38 rfl) (by decide) ?_
    exact B_X8_wordOrName_71 a0 l1 l2 l3 l5 (0 : Int32) σ G hm ok_a0 hf hb0 hb1 hr w (lv_sub hl [1, 2, 3, 4, 5] rfl)
  · rw [if_pos hc] at hf
    refine lv_iconst (v := (1 : Int32)) G.hx G.hb (dcs_get dec_X8_wordOrName_0 36 rfl) (by decide) ?_
    refine lv_goto (tgt := 71) G.hx G.hb (dcs_get dec_X8_wordOrName_0 37 rfl) (by decide) ?_
    exact B_X8_wordOrName_71 a0 l1 l2 l3 l5 (1 : Int32) σ G hm ok_a0 hf hb0 hb1 hr w (lv_sub hl [1, 2, 3, 4, 5] rfl)
set_option maxRecDepth 100000 in
set_option maxHeartbeats 4000000 in
theorem B_X8_wordOrName_79 {H : Heap} {locs : List Loc} {ls : Array Slot} {r0 : Int32} {o : (Int32) ⊕ (Int32)} (a0 : Nat) (l1 : Int32) (l2 : Int32) (l3 : Int32) (l4 : Int32) (σ : hSt) (G : Gx p m c cX8_wordOrName 7 s args RX8 D ay NC ad (aN NC ad)) (hm : meth.sig.returnType = (some .int) ∧ meth.locks = false) (ok_a0 : okr kC NC 6 a0 = true) (hf : F_X8_wordOrName_79 a0 l1 l2 l3 l4 σ = some o) (hb0 : ∀ (v : Int32), o = .inl v → ∀ (H : Heap) (locs : List Loc) (ls : Array Slot), Wd D ay kC NC ad (aN NC ad) s σ H locs → lv_has ls 7 [(0, .ref (ad a0)), (1, .int l1), (2, .int l2), (3, .int v)] → W p l e (rmK 6 200) s m args below meth c H locs 0 0 (MQ below (cI D ay kC NC ad r0 σ) args s 0 0 (aN NC ad)) (F0 m 2 ls [])) (hr : ∀ x, o = .inr (x) → x = r0) (w : Wd D ay kC NC ad (aN NC ad) s σ H locs) (hl : lv_has ls 7 [(0, .ref (ad a0)), (1, .int l1), (2, .int l2), (3, .int l3), (4, .int l4)]) : W p l e (rmK 6 200) s m args below meth c H locs 0 0 (MQ below (cI D ay kC NC ad r0 σ) args s 0 0 (aN NC ad)) (F0 m 79 ls []) := by
  have k_a0 := okr_in ok_a0
  unfold F_X8_wordOrName_79 at hf
  refine lv_iload G.hx G.hb (dcs_get dec_X8_wordOrName_1 2 rfl) (lv_at hl 4 rfl) ?_
  refine lv_if_eq (tgt := 90) G.hx G.hb (dcs_get dec_X8_wordOrName_1 3 rfl) (by decide) (fun hc => ?_) (fun hc => ?_)
  · rw [if_pos hc] at hf
    obtain ⟨v4, e_v4, hf⟩ := cL_some hf
    refine lv_iinc (v := v4) (lv' := [(3, .int v4), (0, .ref (ad a0)), (1, .int l1), (2, .int l2), (4, .int l4)]) G.hx G.hb (dcs_get dec_X8_wordOrName_1 8 rfl) hl (k := 3) rfl (by rw [e_v4]; rfl) (by decide) rfl (fun ls hl => ?_)
    refine lv_goto (tgt := 2) G.hx G.hb (dcs_get dec_X8_wordOrName_1 9 rfl) (by decide) ?_
    exact hb0 _ (Option.some.inj hf).symm _ _ _ w (lv_sub hl [1, 2, 3, 0] rfl)
  · rw [if_neg hc] at hf
    refine lv_sipush (v := (128 : Int32)) G.hx G.hb (dcs_get dec_X8_wordOrName_1 4 rfl) (by decide) ?_
    refine lv_iload_n G.hx G.hb (dcs_get dec_X8_wordOrName_1 5 rfl) rfl (lv_at hl 3 rfl) ?_
    refine lv_iadd G.hx G.hb (dcs_get dec_X8_wordOrName_1 6 rfl) ?_
    have e9 := hr _ (Option.some.inj hf).symm
    exact r_iret G w hm e9 rfl (dcs_get dec_X8_wordOrName_1 7 rfl)
set_option maxRecDepth 100000 in
set_option maxHeartbeats 4000000 in
theorem B_X8_wordOrName_14b {H : Heap} {locs : List Loc} {ls : Array Slot} {r0 : Int32} {o : (Int32 × Int32) ⊕ ((Int32) ⊕ (Int32))} (a0 : Nat) (l1 : Int32) (l2 : Int32) (l3 : Int32) (l4 : Int32) (l5 : Int32) (σ : hSt) (G : Gx p m c cX8_wordOrName 7 s args RX8 D ay NC ad (aN NC ad)) (hm : meth.sig.returnType = (some .int) ∧ meth.locks = false) (ok_a0 : okr kC NC 6 a0 = true) (hf : F_X8_wordOrName_14b a0 l1 l2 l3 l4 l5 σ = some o) (hb0 : ∀ (v : Int32), o = .inr (.inl v) → ∀ (H : Heap) (locs : List Loc) (ls : Array Slot), Wd D ay kC NC ad (aN NC ad) s σ H locs → lv_has ls 7 [(0, .ref (ad a0)), (1, .int l1), (2, .int l2), (3, .int v)] → W p l e (rmK 6 200) s m args below meth c H locs 0 0 (MQ below (cI D ay kC NC ad r0 σ) args s 0 0 (aN NC ad)) (F0 m 2 ls [])) (hb1 : ∀ (v : Int32 × Int32), o = .inl v → ∀ (H : Heap) (locs : List Loc) (ls : Array Slot), Wd D ay kC NC ad (aN NC ad) s σ H locs → lv_has ls 7 [(0, .ref (ad a0)), (1, .int l1), (2, .int l2), (3, .int l3), (4, .int v.1), (5, .int v.2)] → W p l e (rmK 6 200) s m args below meth c H locs 0 0 (MQ below (cI D ay kC NC ad r0 σ) args s 0 0 (aN NC ad)) (F0 m 14 ls [])) (hr : ∀ x, o = .inr (.inr (x)) → x = r0) (w : Wd D ay kC NC ad (aN NC ad) s σ H locs) (hl : lv_has ls 7 [(0, .ref (ad a0)), (1, .int l1), (2, .int l2), (3, .int l3), (4, .int l4), (5, .int l5)]) : W p l e (rmK 6 200) s m args below meth c H locs 0 0 (MQ below (cI D ay kC NC ad r0 σ) args s 0 0 (aN NC ad)) (F0 m 14 ls []) := by
  have k_a0 := okr_in ok_a0
  unfold F_X8_wordOrName_14b at hf
  refine lv_iload G.hx G.hb (dcs_get dec_X8_wordOrName_0 9 rfl) (lv_at hl 5 rfl) ?_
  refine lv_bipush (v := (8 : Int32)) G.hx G.hb (dcs_get dec_X8_wordOrName_0 10 rfl) (by decide) ?_
  refine lv_icmp_ge (tgt := 79) G.hx G.hb (dcs_get dec_X8_wordOrName_0 11 rfl) (by decide) (fun hc => ?_) (fun hc => ?_)
  · rw [if_pos hc] at hf
    obtain ⟨x9, h9, e9⟩ := map_some_inv hf
    subst e9
    exact B_X8_wordOrName_79 a0 l1 l2 l3 l4 σ G hm ok_a0 h9 (fun v e => hb0 v (by rw [e])) (fun x e => hr x (by rw [e])) w (lv_sub hl [0, 1, 2, 3, 4] rfl)
  · rw [if_neg hc] at hf
    refine lv_iload G.hx G.hb (dcs_get dec_X8_wordOrName_0 12 rfl) (lv_at hl 4 rfl) ?_
    refine lv_if_eq (tgt := 79) G.hx G.hb (dcs_get dec_X8_wordOrName_0 13 rfl) (by decide) (fun hc => ?_) (fun hc => ?_)
    · rw [if_pos hc] at hf
      obtain ⟨x9, h9, e9⟩ := map_some_inv hf
      subst e9
      exact B_X8_wordOrName_79 a0 l1 l2 l3 l4 σ G hm ok_a0 h9 (fun v e => hb0 v (by rw [e])) (fun x e => hr x (by rw [e])) w (lv_sub hl [0, 1, 2, 3, 4] rfl)
    · rw [if_neg hc] at hf
      refine lv_iload_n G.hx G.hb (dcs_get dec_X8_wordOrName_0 14 rfl) rfl (lv_at hl 1 rfl) ?_
      refine lv_iload G.hx G.hb (dcs_get dec_X8_wordOrName_0 15 rfl) (lv_at hl 5 rfl) ?_
      refine lv_iadd G.hx G.hb (dcs_get dec_X8_wordOrName_0 16 rfl) ?_
      refine lv_iload_n G.hx G.hb (dcs_get dec_X8_wordOrName_0 17 rfl) rfl (lv_at hl 2 rfl) ?_
      refine lv_icmp_ge (tgt := 45) G.hx G.hb (dcs_get dec_X8_wordOrName_0 18 rfl) (by decide) (fun hc => ?_) (fun hc => ?_)
      · rw [if_pos hc] at hf
        refine lv_bipush (v := (32 : Int32)) G.hx G.hb (dcs_get dec_X8_wordOrName_0 25 rfl) (by decide) ?_
        exact B_X8_wordOrName_47 a0 l1 l2 l3 l5 (32 : Int32) σ G hm ok_a0 hf hb0 hb1 hr w (lv_sub hl [0, 1, 2, 3, 5] rfl)
      · rw [if_neg hc] at hf
        refine lv_aload_n G.hx G.hb (dcs_get dec_X8_wordOrName_0 19 rfl) rfl (lv_at hl 0 rfl) ?_
        refine lv_iload_n G.hx G.hb (dcs_get dec_X8_wordOrName_0 20 rfl) rfl (lv_at hl 1 rfl) ?_
        refine lv_iload G.hx G.hb (dcs_get dec_X8_wordOrName_0 21 rfl) (lv_at hl 5 rfl) ?_
        refine lv_iadd G.hx G.hb (dcs_get dec_X8_wordOrName_0 22 rfl) ?_
        obtain ⟨v6, h5, hf⟩ := cB_some hf
        refine a_i (k_VN (As := [.int (l1 + l5)]) (rest := []) cls6 lb_X6_byteAt lv_X6_byteAt nm_459 (C_X6_byteAt G.2.2.1 a0 (l1 + l5) σ h5 ok_a0) ⟨(Nat.le_of_ble_eq_true rfl), (Nat.le_of_ble_eq_true rfl)⟩ G w k_a0.1 k_a0.2 rfl rfl hl.1 (Nat.le_of_ble_eq_true rfl) (dcs_get dec_X8_wordOrName_0 23 rfl) ⟨Nat.le_refl _, Nat.le_refl _⟩) G w (fun H locs w => ?_)
        refine lv_goto (tgt := 47) G.hx G.hb (dcs_get dec_X8_wordOrName_0 24 rfl) (by decide) ?_
        exact B_X8_wordOrName_47 a0 l1 l2 l3 l5 v6 σ G hm ok_a0 hf hb0 hb1 hr w (lv_sub hl [0, 1, 2, 3, 5] rfl)
set_option maxRecDepth 100000 in
set_option maxHeartbeats 4000000 in
theorem H_X8_wordOrName_14 {r0 : Int32} {o : (Int32) ⊕ (Int32)} (a0 : Nat) (l1 : Int32) (l2 : Int32) (l3 : Int32) (σ : hSt) (G : Gx p m c cX8_wordOrName 7 s args RX8 D ay NC ad (aN NC ad)) (hm : meth.sig.returnType = (some .int) ∧ meth.locks = false) (ok_a0 : okr kC NC 6 a0 = true) (hb0 : ∀ (v : Int32), o = .inl v → ∀ (H : Heap) (locs : List Loc) (ls : Array Slot), Wd D ay kC NC ad (aN NC ad) s σ H locs → lv_has ls 7 [(0, .ref (ad a0)), (1, .int l1), (2, .int l2), (3, .int v)] → W p l e (rmK 6 200) s m args below meth c H locs 0 0 (MQ below (cI D ay kC NC ad r0 σ) args s 0 0 (aN NC ad)) (F0 m 2 ls [])) (hr : ∀ x, o = .inr (x) → x = r0) : ∀ (k : Nat) (v : Int32 × Int32), lp (S_X8_wordOrName_14 a0 l1 l2 l3 σ) k v = some o → ∀ (H : Heap) (locs : List Loc) (ls : Array Slot), Wd D ay kC NC ad (aN NC ad) s σ H locs → lv_has ls 7 [(0, .ref (ad a0)), (1, .int l1), (2, .int l2), (3, .int l3), (4, .int v.1), (5, .int v.2)] → W p l e (rmK 6 200) s m args below meth c H locs 0 0 (MQ below (cI D ay kC NC ad r0 σ) args s 0 0 (aN NC ad)) (F0 m 14 ls []) := by
  intro k
  induction k with
  | zero => intro v hf; cases hf
  | succ k ih =>
    intro v hf H locs ls w hl
    obtain ⟨o1, h1, h2, h3⟩ := lp_some hf
    exact B_X8_wordOrName_14b a0 l1 l2 l3 v.1 v.2 σ G hm ok_a0 h1 (fun v' e => hb0 v' (h3 _ e).symm) (fun v' e => ih v' (h2 v' e)) (fun x e => hr x (h3 _ e).symm) w hl
set_option maxRecDepth 100000 in
set_option maxHeartbeats 4000000 in
theorem B_X8_wordOrName_14 {H : Heap} {locs : List Loc} {ls : Array Slot} {r0 : Int32} {o : (Int32) ⊕ (Int32)} (a0 : Nat) (l1 : Int32) (l2 : Int32) (l3 : Int32) (l4 : Int32) (l5 : Int32) (σ : hSt) (G : Gx p m c cX8_wordOrName 7 s args RX8 D ay NC ad (aN NC ad)) (hm : meth.sig.returnType = (some .int) ∧ meth.locks = false) (ok_a0 : okr kC NC 6 a0 = true) (hf : F_X8_wordOrName_14 a0 l1 l2 l3 l4 l5 σ = some o) (hb0 : ∀ (v : Int32), o = .inl v → ∀ (H : Heap) (locs : List Loc) (ls : Array Slot), Wd D ay kC NC ad (aN NC ad) s σ H locs → lv_has ls 7 [(0, .ref (ad a0)), (1, .int l1), (2, .int l2), (3, .int v)] → W p l e (rmK 6 200) s m args below meth c H locs 0 0 (MQ below (cI D ay kC NC ad r0 σ) args s 0 0 (aN NC ad)) (F0 m 2 ls [])) (hr : ∀ x, o = .inr (x) → x = r0) (w : Wd D ay kC NC ad (aN NC ad) s σ H locs) (hl : lv_has ls 7 [(0, .ref (ad a0)), (1, .int l1), (2, .int l2), (3, .int l3), (4, .int l4), (5, .int l5)]) : W p l e (rmK 6 200) s m args below meth c H locs 0 0 (MQ below (cI D ay kC NC ad r0 σ) args s 0 0 (aN NC ad)) (F0 m 14 ls []) := by
  unfold F_X8_wordOrName_14 at hf
  exact H_X8_wordOrName_14 a0 l1 l2 l3 σ G hm ok_a0 hb0 hr fuel (l4, l5) hf _ _ _ w hl
set_option maxRecDepth 100000 in
set_option maxHeartbeats 4000000 in
theorem B_X8_wordOrName_2b {H : Heap} {locs : List Loc} {ls : Array Slot} {r0 : Int32} {o : (Int32) ⊕ (Int32)} (a0 : Nat) (l1 : Int32) (l2 : Int32) (l3 : Int32) (σ : hSt) (G : Gx p m c cX8_wordOrName 7 s args RX8 D ay NC ad (aN NC ad)) (hm : meth.sig.returnType = (some .int) ∧ meth.locks = false) (ok_a0 : okr kC NC 6 a0 = true) (hf : F_X8_wordOrName_2b a0 l1 l2 l3 σ = some o) (hb0 : ∀ (v : Int32), o = .inl v → ∀ (H : Heap) (locs : List Loc) (ls : Array Slot), Wd D ay kC NC ad (aN NC ad) s σ H locs → lv_has ls 7 [(0, .ref (ad a0)), (1, .int l1), (2, .int l2), (3, .int v)] → W p l e (rmK 6 200) s m args below meth c H locs 0 0 (MQ below (cI D ay kC NC ad r0 σ) args s 0 0 (aN NC ad)) (F0 m 2 ls [])) (hr : ∀ x, o = .inr (x) → x = r0) (w : Wd D ay kC NC ad (aN NC ad) s σ H locs) (hl : lv_has ls 7 [(0, .ref (ad a0)), (1, .int l1), (2, .int l2), (3, .int l3)]) : W p l e (rmK 6 200) s m args below meth c H locs 0 0 (MQ below (cI D ay kC NC ad r0 σ) args s 0 0 (aN NC ad)) (F0 m 2 ls []) := by
  have k_a0 := okr_in ok_a0
  unfold F_X8_wordOrName_2b at hf
  refine lv_iload_n G.hx G.hb (dcs_get dec_X8_wordOrName_0 2 rfl) rfl (lv_at hl 3 rfl) ?_
  refine lv_bipush (v := (19 : Int32)) G.hx G.hb (dcs_get dec_X8_wordOrName_0 3 rfl) (by decide) ?_
  refine lv_icmp_ge (tgt := 96) G.hx G.hb (dcs_get dec_X8_wordOrName_0 4 rfl) (by decide) (fun hc => ?_) (fun hc => ?_)
  · rw [if_pos hc] at hf
    refine lv_iconst (v := (2 : Int32)) G.hx G.hb (dcs_get dec_X8_wordOrName_1 10 rfl) (by decide) ?_
    have e9 := hr _ (Option.some.inj hf).symm
    exact r_iret G w hm e9 rfl (dcs_get dec_X8_wordOrName_1 11 rfl)
  · rw [if_neg hc] at hf
    refine lv_iconst (v := (1 : Int32)) G.hx G.hb (dcs_get dec_X8_wordOrName_0 5 rfl) (by decide) ?_
    refine lv_istore (lv' := [(4, .int (1 : Int32)), (0, .ref (ad a0)), (1, .int l1), (2, .int l2), (3, .int l3)]) G.hx G.hb (dcs_get dec_X8_wordOrName_0 6 rfl) hl (by decide) rfl (fun ls hl => ?_)
    refine lv_iconst (v := (0 : Int32)) G.hx G.hb (dcs_get dec_X8_wordOrName_0 7 rfl) (by decide) ?_
    refine lv_istore (lv' := [(5, .int (0 : Int32)), (4, .int (1 : Int32)), (0, .ref (ad a0)), (1, .int l1), (2, .int l2), (3, .int l3)]) G.hx G.hb (dcs_get dec_X8_wordOrName_0 8 rfl) hl (by decide) rfl (fun ls hl => ?_)
    exact B_X8_wordOrName_14 a0 l1 l2 l3 (1 : Int32) (0 : Int32) σ G hm ok_a0 hf hb0 hr w (lv_sub hl [2, 3, 4, 5, 1, 0] rfl)
set_option maxRecDepth 100000 in
set_option maxHeartbeats 4000000 in
theorem H_X8_wordOrName_2 {r0 : Int32} (a0 : Nat) (l1 : Int32) (l2 : Int32) (σ : hSt) (G : Gx p m c cX8_wordOrName 7 s args RX8 D ay NC ad (aN NC ad)) (hm : meth.sig.returnType = (some .int) ∧ meth.locks = false) (ok_a0 : okr kC NC 6 a0 = true)  : ∀ (k : Nat) (v : Int32), lp (S_X8_wordOrName_2 a0 l1 l2 σ) k v = some r0 → ∀ (H : Heap) (locs : List Loc) (ls : Array Slot), Wd D ay kC NC ad (aN NC ad) s σ H locs → lv_has ls 7 [(0, .ref (ad a0)), (1, .int l1), (2, .int l2), (3, .int v)] → W p l e (rmK 6 200) s m args below meth c H locs 0 0 (MQ below (cI D ay kC NC ad r0 σ) args s 0 0 (aN NC ad)) (F0 m 2 ls []) := by
  intro k
  induction k with
  | zero => intro v hf; cases hf
  | succ k ih =>
    intro v hf H locs ls w hl
    obtain ⟨o1, h1, h2, h3⟩ := lp_some hf
    exact B_X8_wordOrName_2b a0 l1 l2 v σ G hm ok_a0 h1  (fun v' e => ih v' (h2 v' e)) (fun x e => h3 x e) w hl
set_option maxRecDepth 100000 in
set_option maxHeartbeats 4000000 in
theorem B_X8_wordOrName_2 {H : Heap} {locs : List Loc} {ls : Array Slot} {r0 : Int32} (a0 : Nat) (l1 : Int32) (l2 : Int32) (l3 : Int32) (σ : hSt) (G : Gx p m c cX8_wordOrName 7 s args RX8 D ay NC ad (aN NC ad)) (hm : meth.sig.returnType = (some .int) ∧ meth.locks = false) (ok_a0 : okr kC NC 6 a0 = true) (hf : F_X8_wordOrName_2 a0 l1 l2 l3 σ = some r0)  (w : Wd D ay kC NC ad (aN NC ad) s σ H locs) (hl : lv_has ls 7 [(0, .ref (ad a0)), (1, .int l1), (2, .int l2), (3, .int l3)]) : W p l e (rmK 6 200) s m args below meth c H locs 0 0 (MQ below (cI D ay kC NC ad r0 σ) args s 0 0 (aN NC ad)) (F0 m 2 ls []) := by
  unfold F_X8_wordOrName_2 at hf
  exact H_X8_wordOrName_2 a0 l1 l2 σ G hm ok_a0  fuel (l3) hf _ _ _ w hl
set_option maxRecDepth 100000 in
set_option maxHeartbeats 4000000 in
theorem B_X8_wordOrName_0 {H : Heap} {locs : List Loc} {ls : Array Slot} {r0 : Int32} (a0 : Nat) (l1 : Int32) (l2 : Int32) (σ : hSt) (G : Gx p m c cX8_wordOrName 7 s args RX8 D ay NC ad (aN NC ad)) (hm : meth.sig.returnType = (some .int) ∧ meth.locks = false) (ok_a0 : okr kC NC 6 a0 = true) (hf : F_X8_wordOrName a0 l1 l2 σ = some r0)  (w : Wd D ay kC NC ad (aN NC ad) s σ H locs) (hl : lv_has ls 7 [(0, .ref (ad a0)), (1, .int l1), (2, .int l2)]) : W p l e (rmK 6 200) s m args below meth c H locs 0 0 (MQ below (cI D ay kC NC ad r0 σ) args s 0 0 (aN NC ad)) (F0 m 0 ls []) := by
  have k_a0 := okr_in ok_a0
  unfold F_X8_wordOrName at hf
  refine lv_iconst (v := (0 : Int32)) G.hx G.hb (dcs_get dec_X8_wordOrName_0 0 rfl) (by decide) ?_
  refine lv_istore_n (lv' := [(3, .int (0 : Int32)), (0, .ref (ad a0)), (1, .int l1), (2, .int l2)]) G.hx G.hb (dcs_get dec_X8_wordOrName_0 1 rfl) rfl hl (by decide) rfl (fun ls hl => ?_)
  exact B_X8_wordOrName_2 a0 l1 l2 (0 : Int32) σ G hm ok_a0 hf  w (lv_sub hl [1, 2, 3, 0] rfl)
end
set_option maxRecDepth 100000 in
set_option maxHeartbeats 4000000 in
theorem C_X8_wordOrName {l : Launch} {D : va_G} {ay : Nat → ClassId} {ad : Nat → Nat} (hi : hInj NC ad) (a0 : Nat) (l1 : Int32) (l2 : Int32) (σ : hSt) {r0 : Int32} (hf : F_X8_wordOrName a0 l1 l2 σ = some r0) (ok_a0 : okr kC NC 6 a0 = true) : hM l D ay kC NC ad yX8_wordOrName cX8_wordOrName 7 ((some .int)) (rmK 6 200) [.ref (ad a0), .int l1, .int l2] σ (cI D ay kC NC ad r0 σ) := by
  refine hM_in (by decide) hi (Nat.le_of_ble_eq_true rfl) ?_
  intro p e s m below meth c G hm w ls hl
  exact B_X8_wordOrName_0 a0 l1 l2 σ G hm ok_a0 hf w (lv_sub hl [0, 1, 2] rfl)

/-! HillDrums.Tokens.keepLetters(LHillDrums$Tape;II)I -/
def DL_X8_keepLetters_0 : List (Nat × Instr × Nat) := [(0, .iload_n 2, 1), (1, .istore 4, 2), (3, .iload 4, 2), (5, .aload_n 1, 1), (6, .getfield 30, 3), (9, .if_icmp .ge 50, 3), (12, .aload_n 1, 1), (13, .iload 4, 2), (15, .invokevirtual 36, 3), (18, .invokestatic 44, 3), (21, .ifCond .eq 38, 3), (24, .aload_n 0, 1), (25, .getfield 18, 3), (28, .iload_n 3, 1), (29, .aload_n 0, 1), (30, .getfield 18, 3), (33, .iload_n 3, 1), (34, .laload, 1), (35, .ldc2_w 63, 3), (38, .lmul, 1), (39, .aload_n 1, 1), (40, .iload 4, 2), (42, .invokevirtual 36, 3), (45, .bipush 97, 2), (47, .isub, 1), (48, .iconst 1, 1), (49, .iadd, 1), (50, .i2l, 1), (51, .ladd, 1), (52, .lastore, 1), (53, .iinc 4 1, 3), (56, .goto (-53), 3), (59, .aload_n 0, 1), (60, .getfield 9, 3), (63, .iload_n 3, 1), (64, .iload 4, 2), (66, .iload_n 2, 1), (67, .isub, 1), (68, .bipush 8, 2), (70, .if_icmp .le 7, 3)]
set_option maxRecDepth 100000 in
theorem dec_X8_keepLetters_0 : dcs cX8_keepLetters DL_X8_keepLetters_0 = true := by decide +kernel
def DL_X8_keepLetters_1 : List (Nat × Instr × Nat) := [(73, .iconst 1, 1), (74, .goto 10, 3), (77, .aload_n 1, 1), (78, .iload_n 2, 1), (79, .iload 4, 2), (81, .invokestatic 65, 3), (84, .iastore, 1), (85, .iload 4, 2), (87, .ireturn, 1)]
set_option maxRecDepth 100000 in
theorem dec_X8_keepLetters_1 : dcs cX8_keepLetters DL_X8_keepLetters_1 = true := by decide +kernel
theorem lb_X8_keepLetters : lkB yX8_keepLetters cX8_keepLetters 5 ((some .int)) 3 := ⟨q_476, q_7, ⟨by decide, by decide⟩, by decide +kernel⟩
theorem lv_X8_keepLetters : lkV yX8_keepLetters := ⟨q_475, qs_10⟩
def F_X8_keepLetters_84 (l4 : Int32) (s0 : Nat) (s1 : Int32) (s2 : Int32) (σ : hSt) : Option (Int32 × hSt) :=
cG (inb s1 (kC s0).2) <|
cL (uI σ s0 s1.toNatClampNeg s2) fun σ2 =>
some ((l4, σ2))
def F_X8_keepLetters_59 (a0 : Nat) (a1 : Nat) (l2 : Int32) (l3 : Int32) (l4 : Int32) (σ : hSt) : Option (Int32 × hSt) :=
cR (σ.2.2 a0 0) (okr kC NC 101) fun z3 =>
if (l4 - l2) ≤ (8 : Int32) then (
(F_X8_wordOrName a1 l2 l4 σ).bind fun v5 =>
F_X8_keepLetters_84 l4 z3 l3 v5 σ) else (
F_X8_keepLetters_84 l4 z3 l3 (1 : Int32) σ)
def F_X8_keepLetters_3b (a0 : Nat) (a1 : Nat) (l2 : Int32) (l3 : Int32) (l4 : Int32) (σ : hSt) : Option ((Int32 × hSt) ⊕ (Int32 × hSt)) :=
if (σ.1 a1 1) ≤ l4 then (
(F_X8_keepLetters_59 a0 a1 l2 l3 l4 σ).map (fun x => .inr (x))) else (
(F_X6_byteAt a1 l4 σ).bind fun v7 =>
(F_X8_isLetter v7 σ).bind fun v9 =>
if v9 = 0 then (
(F_X8_keepLetters_59 a0 a1 l2 l3 l4 σ).map (fun x => .inr (x))) else (
cR (σ.2.2 a0 2) (okr kC NC 103) fun z10 =>
cR (σ.2.2 a0 2) (okr kC NC 103) fun z11 =>
cG (inb l3 (kC z11).2) <|
(F_X6_byteAt a1 l4 σ).bind fun v14 =>
cG (inb l3 (kC z10).2) <|
cL (uJ σ z10 l3.toNatClampNeg (((σ.2.1 z11 l3.toNatClampNeg) * (32 : Int64)) + (((v14 - (97 : Int32)) + (1 : Int32)).toInt64))) fun σ16 =>
cL (l4 + (1 : Int32)) fun v17 =>
some (.inl (v17, σ16))))
def S_X8_keepLetters_3 (a0 : Nat) (a1 : Nat) (l2 : Int32) (l3 : Int32) (v : Int32 × hSt) : Option ((Int32 × hSt) ⊕ (Int32 × hSt)) := F_X8_keepLetters_3b a0 a1 l2 l3 v.1 v.2
def F_X8_keepLetters_3 (a0 : Nat) (a1 : Nat) (l2 : Int32) (l3 : Int32) (l4 : Int32) (σ : hSt) : Option (Int32 × hSt) := lp (S_X8_keepLetters_3 a0 a1 l2 l3) fuel (l4, σ)
def F_X8_keepLetters (a0 : Nat) (a1 : Nat) (l2 : Int32) (l3 : Int32) (σ : hSt) : Option (Int32 × hSt) :=
F_X8_keepLetters_3 a0 a1 l2 l3 l2 σ
section
variable {p : Program} {l : Launch} {e : Env} {s : State} {m : MethodId} {args : Array Value} {below : List Frame} {meth : Method} {c : Code} {D : va_G} {ay : Nat → ClassId} {ad : Nat → Nat}
set_option maxRecDepth 100000 in
set_option maxHeartbeats 4000000 in
theorem B_X8_keepLetters_84 {H : Heap} {locs : List Loc} {ls : Array Slot} {r0 : Int32} {σ0 : hSt} (l4 : Int32) (s0 : Nat) (s1 : Int32) (s2 : Int32) (σ : hSt) (G : Gx p m c cX8_keepLetters 5 s args RX8 D ay NC ad (aN NC ad)) (hm : meth.sig.returnType = (some .int) ∧ meth.locks = false) (ok_s0 : okr kC NC 101 s0 = true) (hf : F_X8_keepLetters_84 l4 s0 s1 s2 σ = some (r0, σ0))  (w : Wd D ay kC NC ad (aN NC ad) s σ H locs) (hl : lv_has ls 5 [(4, .int l4)]) : W p l e (rmK 7 226) s m args below meth c H locs 0 0 (MQ below (cI D ay kC NC ad r0 σ0) args s 0 0 (aN NC ad)) (F0 m 84 ls [.int s2, .int s1, .ref (ad s0)]) := by
  have k_s0 := okr_in ok_s0
  unfold F_X8_keepLetters_84 at hf
  obtain ⟨h1, hf⟩ := cG_some hf
  obtain ⟨σ2, e_σ2, hf⟩ := cL_some hf
  refine r_iast G w k_s0.1 k_s0.2 h1 (dcs_get dec_X8_keepLetters_1 6 rfl) (fun H locs w => ?_)
  have w := Wd.nm e_σ2 w
  refine lv_iload G.hx G.hb (dcs_get dec_X8_keepLetters_1 7 rfl) (lv_at hl 0 rfl) ?_
  have e9 := Option.some.inj hf
  exact r_iret G w hm (congrArg Prod.fst e9) (congrArg Prod.snd e9) (dcs_get dec_X8_keepLetters_1 8 rfl)
set_option maxRecDepth 100000 in
set_option maxHeartbeats 4000000 in
theorem B_X8_keepLetters_59 {H : Heap} {locs : List Loc} {ls : Array Slot} {r0 : Int32} {σ0 : hSt} (a0 : Nat) (a1 : Nat) (l2 : Int32) (l3 : Int32) (l4 : Int32) (σ : hSt) (G : Gx p m c cX8_keepLetters 5 s args RX8 D ay NC ad (aN NC ad)) (hm : meth.sig.returnType = (some .int) ∧ meth.locks = false) (ok_a0 : okr kC NC 8 a0 = true) (ok_a1 : okr kC NC 6 a1 = true) (hf : F_X8_keepLetters_59 a0 a1 l2 l3 l4 σ = some (r0, σ0))  (w : Wd D ay kC NC ad (aN NC ad) s σ H locs) (hl : lv_has ls 5 [(0, .ref (ad a0)), (1, .ref (ad a1)), (2, .int l2), (3, .int l3), (4, .int l4)]) : W p l e (rmK 7 226) s m args below meth c H locs 0 0 (MQ below (cI D ay kC NC ad r0 σ0) args s 0 0 (aN NC ad)) (F0 m 59 ls []) := by
  have k_a0 := okr_in ok_a0
  have k_a1 := okr_in ok_a1
  unfold F_X8_keepLetters_59 at hf
  refine lv_aload_n G.hx G.hb (dcs_get dec_X8_keepLetters_0 32 rfl) rfl (lv_at hl 0 rfl) ?_
  obtain ⟨z3, e_z3, ok_z3, hf⟩ := cR_some hf
  have k_z3 := okr_in ok_z3
  refine r_getr (k := 0) cls8 fi_8_0.1 fi_8_0.2 q_184 G w k_a0.1 k_a0.2 e_z3 (dcs_get dec_X8_keepLetters_0 33 rfl) ?_
  refine lv_iload_n G.hx G.hb (dcs_get dec_X8_keepLetters_0 34 rfl) rfl (lv_at hl 3 rfl) ?_
  refine lv_iload G.hx G.hb (dcs_get dec_X8_keepLetters_0 35 rfl) (lv_at hl 4 rfl) ?_
  refine lv_iload_n G.hx G.hb (dcs_get dec_X8_keepLetters_0 36 rfl) rfl (lv_at hl 2 rfl) ?_
  refine lv_isub G.hx G.hb (dcs_get dec_X8_keepLetters_0 37 rfl) ?_
  refine lv_bipush (v := (8 : Int32)) G.hx G.hb (dcs_get dec_X8_keepLetters_0 38 rfl) (by decide) ?_
  refine lv_icmp_le (tgt := 77) G.hx G.hb (dcs_get dec_X8_keepLetters_0 39 rfl) (by decide) (fun hc => ?_) (fun hc => ?_)
  · rw [if_pos hc] at hf
    refine lv_aload_n G.hx G.hb (dcs_get dec_X8_keepLetters_1 2 rfl) rfl (lv_at hl 1 rfl) ?_
    refine lv_iload_n G.hx G.hb (dcs_get dec_X8_keepLetters_1 3 rfl) rfl (lv_at hl 2 rfl) ?_
    refine lv_iload G.hx G.hb (dcs_get dec_X8_keepLetters_1 4 rfl) (lv_at hl 4 rfl) ?_
    obtain ⟨v5, h4, hf⟩ := cB_some hf
    refine a_i (k_S (As := [.ref (ad a1), .int l2, .int l4]) (rest := [.int l3, .ref (ad z3)]) lb_X8_wordOrName q_479 q_478 (C_X8_wordOrName G.2.2.1 a1 l2 l4 σ h4 ok_a1) ⟨(Nat.le_of_ble_eq_true rfl), (Nat.le_of_ble_eq_true rfl)⟩ G w rfl rfl hl.1 (Nat.le_of_ble_eq_true rfl) (dcs_get dec_X8_keepLetters_1 5 rfl) ⟨Nat.le_refl _, Nat.le_refl _⟩) G w (fun H locs w => ?_)
    exact B_X8_keepLetters_84 l4 z3 l3 v5 σ G hm ok_z3 hf  w (lv_sub hl [4] rfl)
  · rw [if_neg hc] at hf
    refine lv_iconst (v := (1 : Int32)) G.hx G.hb (dcs_get dec_X8_keepLetters_1 0 rfl) (by decide) ?_
    refine lv_goto (tgt := 84) G.hx G.hb (dcs_get dec_X8_keepLetters_1 1 rfl) (by decide) ?_
    exact B_X8_keepLetters_84 l4 z3 l3 (1 : Int32) σ G hm ok_z3 hf  w (lv_sub hl [4] rfl)
set_option maxRecDepth 100000 in
set_option maxHeartbeats 4000000 in
theorem B_X8_keepLetters_3b {H : Heap} {locs : List Loc} {ls : Array Slot} {r0 : Int32} {σ0 : hSt} {o : (Int32 × hSt) ⊕ (Int32 × hSt)} (a0 : Nat) (a1 : Nat) (l2 : Int32) (l3 : Int32) (l4 : Int32) (σ : hSt) (G : Gx p m c cX8_keepLetters 5 s args RX8 D ay NC ad (aN NC ad)) (hm : meth.sig.returnType = (some .int) ∧ meth.locks = false) (ok_a0 : okr kC NC 8 a0 = true) (ok_a1 : okr kC NC 6 a1 = true) (hf : F_X8_keepLetters_3b a0 a1 l2 l3 l4 σ = some o) (hb0 : ∀ (v : Int32 × hSt), o = .inl v → ∀ (H : Heap) (locs : List Loc) (ls : Array Slot), Wd D ay kC NC ad (aN NC ad) s v.2 H locs → lv_has ls 5 [(0, .ref (ad a0)), (1, .ref (ad a1)), (2, .int l2), (3, .int l3), (4, .int v.1)] → W p l e (rmK 7 226) s m args below meth c H locs 0 0 (MQ below (cI D ay kC NC ad r0 σ0) args s 0 0 (aN NC ad)) (F0 m 3 ls [])) (hr : ∀ x, o = .inr (x) → x = (r0, σ0)) (w : Wd D ay kC NC ad (aN NC ad) s σ H locs) (hl : lv_has ls 5 [(0, .ref (ad a0)), (1, .ref (ad a1)), (2, .int l2), (3, .int l3), (4, .int l4)]) : W p l e (rmK 7 226) s m args below meth c H locs 0 0 (MQ below (cI D ay kC NC ad r0 σ0) args s 0 0 (aN NC ad)) (F0 m 3 ls []) := by
  have k_a0 := okr_in ok_a0
  have k_a1 := okr_in ok_a1
  unfold F_X8_keepLetters_3b at hf
  refine lv_iload G.hx G.hb (dcs_get dec_X8_keepLetters_0 2 rfl) (lv_at hl 4 rfl) ?_
  refine lv_aload_n G.hx G.hb (dcs_get dec_X8_keepLetters_0 3 rfl) rfl (lv_at hl 1 rfl) ?_
  refine r_getiN (k := 1) cls6 fi_6_1.1 fi_6_1.2 nf_40 G w k_a1.1 k_a1.2 (dcs_get dec_X8_keepLetters_0 4 rfl) ?_
  refine lv_icmp_ge (tgt := 59) G.hx G.hb (dcs_get dec_X8_keepLetters_0 5 rfl) (by decide) (fun hc => ?_) (fun hc => ?_)
  · rw [if_pos hc] at hf
    obtain ⟨x9, h9, e9⟩ := map_some_inv hf
    subst e9
    have e8 := hr _ rfl
    rw [e8] at h9
    exact B_X8_keepLetters_59 a0 a1 l2 l3 l4 σ G hm ok_a0 ok_a1 h9 w (lv_sub hl [0, 1, 2, 3, 4] rfl)
  · rw [if_neg hc] at hf
    refine lv_aload_n G.hx G.hb (dcs_get dec_X8_keepLetters_0 6 rfl) rfl (lv_at hl 1 rfl) ?_
    refine lv_iload G.hx G.hb (dcs_get dec_X8_keepLetters_0 7 rfl) (lv_at hl 4 rfl) ?_
    obtain ⟨v7, h6, hf⟩ := cB_some hf
    refine a_i (k_VN (As := [.int l4]) (rest := []) cls6 lb_X6_byteAt lv_X6_byteAt nm_459 (C_X6_byteAt G.2.2.1 a1 l4 σ h6 ok_a1) ⟨(Nat.le_of_ble_eq_true rfl), (Nat.le_of_ble_eq_true rfl)⟩ G w k_a1.1 k_a1.2 rfl rfl hl.1 (Nat.le_of_ble_eq_true rfl) (dcs_get dec_X8_keepLetters_0 8 rfl) ⟨Nat.le_refl _, Nat.le_refl _⟩) G w (fun H locs w => ?_)
    obtain ⟨v9, h8, hf⟩ := cB_some hf
    refine a_i (k_S (As := [.int v7]) (rest := []) lb_X8_isLetter q_471 q_470 (C_X8_isLetter G.2.2.1 v7 σ h8 ) ⟨(Nat.le_of_ble_eq_true rfl), (Nat.le_of_ble_eq_true rfl)⟩ G w rfl rfl hl.1 (Nat.le_of_ble_eq_true rfl) (dcs_get dec_X8_keepLetters_0 9 rfl) ⟨Nat.le_refl _, Nat.le_refl _⟩) G w (fun H locs w => ?_)
    refine lv_if_eq (tgt := 59) G.hx G.hb (dcs_get dec_X8_keepLetters_0 10 rfl) (by decide) (fun hc => ?_) (fun hc => ?_)
    · rw [if_pos hc] at hf
      obtain ⟨x9, h9, e9⟩ := map_some_inv hf
      subst e9
      have e8 := hr _ rfl
      rw [e8] at h9
      exact B_X8_keepLetters_59 a0 a1 l2 l3 l4 σ G hm ok_a0 ok_a1 h9 w (lv_sub hl [0, 1, 2, 3, 4] rfl)
    · rw [if_neg hc] at hf
      refine lv_aload_n G.hx G.hb (dcs_get dec_X8_keepLetters_0 11 rfl) rfl (lv_at hl 0 rfl) ?_
      obtain ⟨z10, e_z10, ok_z10, hf⟩ := cR_some hf
      have k_z10 := okr_in ok_z10
      refine r_getr (k := 2) cls8 fi_8_2.1 fi_8_2.2 q_188 G w k_a0.1 k_a0.2 e_z10 (dcs_get dec_X8_keepLetters_0 12 rfl) ?_
      refine lv_iload_n G.hx G.hb (dcs_get dec_X8_keepLetters_0 13 rfl) rfl (lv_at hl 3 rfl) ?_
      refine lv_aload_n G.hx G.hb (dcs_get dec_X8_keepLetters_0 14 rfl) rfl (lv_at hl 0 rfl) ?_
      obtain ⟨z11, e_z11, ok_z11, hf⟩ := cR_some hf
      have k_z11 := okr_in ok_z11
      refine r_getr (k := 2) cls8 fi_8_2.1 fi_8_2.2 q_188 G w k_a0.1 k_a0.2 e_z11 (dcs_get dec_X8_keepLetters_0 15 rfl) ?_
      refine lv_iload_n G.hx G.hb (dcs_get dec_X8_keepLetters_0 16 rfl) rfl (lv_at hl 3 rfl) ?_
      obtain ⟨h12, hf⟩ := cG_some hf
      refine r_lald G w k_z11.1 k_z11.2 h12 (dcs_get dec_X8_keepLetters_0 17 rfl) ?_
      refine lv_ldc2 G.hx G.hb G.hown (G.hts _ q_477) (dcs_get dec_X8_keepLetters_0 18 rfl) ?_
      refine lv_lmul G.hx G.hb (dcs_get dec_X8_keepLetters_0 19 rfl) ?_
      refine lv_aload_n G.hx G.hb (dcs_get dec_X8_keepLetters_0 20 rfl) rfl (lv_at hl 1 rfl) ?_
      refine lv_iload G.hx G.hb (dcs_get dec_X8_keepLetters_0 21 rfl) (lv_at hl 4 rfl) ?_
      obtain ⟨v14, h13, hf⟩ := cB_some hf
      refine a_i (k_VN (As := [.int l4]) (rest := [.long ((σ.2.1 z11 l3.toNatClampNeg) * (32 : Int64)), .int l3, .ref (ad z10)]) cls6 lb_X6_byteAt lv_X6_byteAt nm_459 (C_X6_byteAt G.2.2.1 a1 l4 σ h13 ok_a1) ⟨(Nat.le_of_ble_eq_true rfl), (Nat.le_of_ble_eq_true rfl)⟩ G w k_a1.1 k_a1.2 rfl rfl hl.1 (Nat.le_of_ble_eq_true rfl) (dcs_get dec_X8_keepLetters_0 22 rfl) ⟨Nat.le_refl _, Nat.le_refl _⟩) G w (fun H locs w => ?_)
      refine lv_bipush (v := (97 : Int32)) G.hx G.hb (dcs_get dec_X8_keepLetters_0 23 rfl) (by decide) ?_
      refine lv_isub G.hx G.hb (dcs_get dec_X8_keepLetters_0 24 rfl) ?_
      refine lv_iconst (v := (1 : Int32)) G.hx G.hb (dcs_get dec_X8_keepLetters_0 25 rfl) (by decide) ?_
      refine lv_iadd G.hx G.hb (dcs_get dec_X8_keepLetters_0 26 rfl) ?_
      refine lv_i2l G.hx G.hb (dcs_get dec_X8_keepLetters_0 27 rfl) rfl ?_
      refine lv_ladd G.hx G.hb (dcs_get dec_X8_keepLetters_0 28 rfl) ?_
      obtain ⟨h15, hf⟩ := cG_some hf
      obtain ⟨σ16, e_σ16, hf⟩ := cL_some hf
      refine r_last G w k_z10.1 k_z10.2 h15 (dcs_get dec_X8_keepLetters_0 29 rfl) (fun H locs w => ?_)
      have w := Wd.nm e_σ16 w
      obtain ⟨v17, e_v17, hf⟩ := cL_some hf
      refine lv_iinc (v := v17) (lv' := [(4, .int v17), (0, .ref (ad a0)), (1, .ref (ad a1)), (2, .int l2), (3, .int l3)]) G.hx G.hb (dcs_get dec_X8_keepLetters_0 30 rfl) hl (k := 4) rfl (by rw [e_v17]; rfl) (by decide) rfl (fun ls hl => ?_)
      refine lv_goto (tgt := 3) G.hx G.hb (dcs_get dec_X8_keepLetters_0 31 rfl) (by decide) ?_
      exact hb0 _ (Option.some.inj hf).symm _ _ _ w (lv_sub hl [1, 2, 3, 4, 0] rfl)
set_option maxRecDepth 100000 in
set_option maxHeartbeats 4000000 in
theorem H_X8_keepLetters_3 {r0 : Int32} {σ0 : hSt} (a0 : Nat) (a1 : Nat) (l2 : Int32) (l3 : Int32) (G : Gx p m c cX8_keepLetters 5 s args RX8 D ay NC ad (aN NC ad)) (hm : meth.sig.returnType = (some .int) ∧ meth.locks = false) (ok_a0 : okr kC NC 8 a0 = true) (ok_a1 : okr kC NC 6 a1 = true)  : ∀ (k : Nat) (v : Int32 × hSt), lp (S_X8_keepLetters_3 a0 a1 l2 l3) k v = some (r0, σ0) → ∀ (H : Heap) (locs : List Loc) (ls : Array Slot), Wd D ay kC NC ad (aN NC ad) s v.2 H locs → lv_has ls 5 [(0, .ref (ad a0)), (1, .ref (ad a1)), (2, .int l2), (3, .int l3), (4, .int v.1)] → W p l e (rmK 7 226) s m args below meth c H locs 0 0 (MQ below (cI D ay kC NC ad r0 σ0) args s 0 0 (aN NC ad)) (F0 m 3 ls []) := by
  intro k
  induction k with
  | zero => intro v hf; cases hf
  | succ k ih =>
    intro v hf H locs ls w hl
    obtain ⟨o1, h1, h2, h3⟩ := lp_some hf
    exact B_X8_keepLetters_3b a0 a1 l2 l3 v.1 v.2 G hm ok_a0 ok_a1 h1  (fun v' e => ih v' (h2 v' e)) (fun x e => h3 x e) w hl
set_option maxRecDepth 100000 in
set_option maxHeartbeats 4000000 in
theorem B_X8_keepLetters_3 {H : Heap} {locs : List Loc} {ls : Array Slot} {r0 : Int32} {σ0 : hSt} (a0 : Nat) (a1 : Nat) (l2 : Int32) (l3 : Int32) (l4 : Int32) (σ : hSt) (G : Gx p m c cX8_keepLetters 5 s args RX8 D ay NC ad (aN NC ad)) (hm : meth.sig.returnType = (some .int) ∧ meth.locks = false) (ok_a0 : okr kC NC 8 a0 = true) (ok_a1 : okr kC NC 6 a1 = true) (hf : F_X8_keepLetters_3 a0 a1 l2 l3 l4 σ = some (r0, σ0))  (w : Wd D ay kC NC ad (aN NC ad) s σ H locs) (hl : lv_has ls 5 [(0, .ref (ad a0)), (1, .ref (ad a1)), (2, .int l2), (3, .int l3), (4, .int l4)]) : W p l e (rmK 7 226) s m args below meth c H locs 0 0 (MQ below (cI D ay kC NC ad r0 σ0) args s 0 0 (aN NC ad)) (F0 m 3 ls []) := by
  unfold F_X8_keepLetters_3 at hf
  exact H_X8_keepLetters_3 a0 a1 l2 l3  G hm ok_a0 ok_a1  fuel (l4, σ) hf _ _ _ w hl
set_option maxRecDepth 100000 in
set_option maxHeartbeats 4000000 in
theorem B_X8_keepLetters_0 {H : Heap} {locs : List Loc} {ls : Array Slot} {r0 : Int32} {σ0 : hSt} (a0 : Nat) (a1 : Nat) (l2 : Int32) (l3 : Int32) (σ : hSt) (G : Gx p m c cX8_keepLetters 5 s args RX8 D ay NC ad (aN NC ad)) (hm : meth.sig.returnType = (some .int) ∧ meth.locks = false) (ok_a0 : okr kC NC 8 a0 = true) (ok_a1 : okr kC NC 6 a1 = true) (hf : F_X8_keepLetters a0 a1 l2 l3 σ = some (r0, σ0))  (w : Wd D ay kC NC ad (aN NC ad) s σ H locs) (hl : lv_has ls 5 [(0, .ref (ad a0)), (1, .ref (ad a1)), (2, .int l2), (3, .int l3)]) : W p l e (rmK 7 226) s m args below meth c H locs 0 0 (MQ below (cI D ay kC NC ad r0 σ0) args s 0 0 (aN NC ad)) (F0 m 0 ls []) := by
  have k_a0 := okr_in ok_a0
  have k_a1 := okr_in ok_a1
  unfold F_X8_keepLetters at hf
  refine lv_iload_n G.hx G.hb (dcs_get dec_X8_keepLetters_0 0 rfl) rfl (lv_at hl 2 rfl) ?_
  refine lv_istore (lv' := [(4, .int l2), (0, .ref (ad a0)), (1, .ref (ad a1)), (2, .int l2), (3, .int l3)]) G.hx G.hb (dcs_get dec_X8_keepLetters_0 1 rfl) hl (by decide) rfl (fun ls hl => ?_)
  exact B_X8_keepLetters_3 a0 a1 l2 l3 l2 σ G hm ok_a0 ok_a1 hf  w (lv_sub hl [1, 2, 3, 4, 0] rfl)
end
set_option maxRecDepth 100000 in
set_option maxHeartbeats 4000000 in
theorem C_X8_keepLetters {l : Launch} {D : va_G} {ay : Nat → ClassId} {ad : Nat → Nat} (hi : hInj NC ad) (a0 : Nat) (a1 : Nat) (l2 : Int32) (l3 : Int32) (σ : hSt) {r0 : Int32} {σ0 : hSt} (hf : F_X8_keepLetters a0 a1 l2 l3 σ = some (r0, σ0)) (ok_a0 : okr kC NC 8 a0 = true) (ok_a1 : okr kC NC 6 a1 = true) : hM l D ay kC NC ad yX8_keepLetters cX8_keepLetters 5 ((some .int)) (rmK 7 226) [.ref (ad a0), .ref (ad a1), .int l2, .int l3] σ (cI D ay kC NC ad r0 σ0) := by
  refine hM_in (by decide) hi (Nat.le_of_ble_eq_true rfl) ?_
  intro p e s m below meth c G hm w ls hl
  exact B_X8_keepLetters_0 a0 a1 l2 l3 σ G hm ok_a0 ok_a1 hf w (lv_sub hl [0, 1, 2, 3] rfl)

/-! HillDrums.Tokens.isDigit(I)Z -/
def DL_X8_isDigit_0 : List (Nat × Instr × Nat) := [(0, .iload_n 0, 1), (1, .bipush 48, 2), (3, .if_icmp .lt 13, 3), (6, .iload_n 0, 1), (7, .bipush 57, 2), (9, .if_icmp .gt 7, 3), (12, .iconst 1, 1), (13, .goto 4, 3), (16, .iconst 0, 1), (17, .ireturn, 1)]
set_option maxRecDepth 100000 in
theorem dec_X8_isDigit_0 : dcs cX8_isDigit DL_X8_isDigit_0 = true := by decide +kernel
theorem lb_X8_isDigit : lkB yX8_isDigit cX8_isDigit 1 ((some .boolean)) 1 := ⟨q_524, q_7, ⟨by decide, by decide⟩, by decide +kernel⟩
def F_X8_isDigit_17 (s0 : Int32) (σ : hSt) : Option (Int32) :=
cG (isB s0) <|
some (s0)
def F_X8_isDigit_16  (σ : hSt) : Option (Int32) :=
F_X8_isDigit_17 (0 : Int32) σ
def F_X8_isDigit (l0 : Int32) (σ : hSt) : Option (Int32) :=
if l0 < (48 : Int32) then (
F_X8_isDigit_16  σ) else (
if (57 : Int32) < l0 then (
F_X8_isDigit_16  σ) else (
F_X8_isDigit_17 (1 : Int32) σ))
section
variable {p : Program} {l : Launch} {e : Env} {s : State} {m : MethodId} {args : Array Value} {below : List Frame} {meth : Method} {c : Code} {D : va_G} {ay : Nat → ClassId} {ad : Nat → Nat}
set_option maxRecDepth 100000 in
set_option maxHeartbeats 4000000 in
theorem B_X8_isDigit_17 {H : Heap} {locs : List Loc} {ls : Array Slot} {r0 : Int32} (s0 : Int32) (σ : hSt) (G : Gx p m c cX8_isDigit 1 s args RX8 D ay NC ad (aN NC ad)) (hm : meth.sig.returnType = (some .boolean) ∧ meth.locks = false)  (hf : F_X8_isDigit_17 s0 σ = some r0)  (w : Wd D ay kC NC ad (aN NC ad) s σ H locs) (hl : lv_has ls 1 []) : W p l e (rmK 0 0) s m args below meth c H locs 0 0 (MQ below (cI D ay kC NC ad r0 σ) args s 0 0 (aN NC ad)) (F0 m 17 ls [.int s0]) := by
  unfold F_X8_isDigit_17 at hf
  obtain ⟨h1, hf⟩ := cG_some hf
  have e9 := Option.some.inj hf
  exact r_zret (isB_nar h1) G w hm e9 rfl (dcs_get dec_X8_isDigit_0 9 rfl)
set_option maxRecDepth 100000 in
set_option maxHeartbeats 4000000 in
theorem B_X8_isDigit_16 {H : Heap} {locs : List Loc} {ls : Array Slot} {r0 : Int32}  (σ : hSt) (G : Gx p m c cX8_isDigit 1 s args RX8 D ay NC ad (aN NC ad)) (hm : meth.sig.returnType = (some .boolean) ∧ meth.locks = false)  (hf : F_X8_isDigit_16  σ = some r0)  (w : Wd D ay kC NC ad (aN NC ad) s σ H locs) (hl : lv_has ls 1 []) : W p l e (rmK 0 0) s m args below meth c H locs 0 0 (MQ below (cI D ay kC NC ad r0 σ) args s 0 0 (aN NC ad)) (F0 m 16 ls []) := by
  unfold F_X8_isDigit_16 at hf
  refine lv_iconst (v := (0 : Int32)) G.hx G.hb (dcs_get dec_X8_isDigit_0 8 rfl) (by decide) ?_
  exact B_X8_isDigit_17 (0 : Int32) σ G hm  hf  w (lv_sub hl [] rfl)
set_option maxRecDepth 100000 in
set_option maxHeartbeats 4000000 in
theorem B_X8_isDigit_0 {H : Heap} {locs : List Loc} {ls : Array Slot} {r0 : Int32} (l0 : Int32) (σ : hSt) (G : Gx p m c cX8_isDigit 1 s args RX8 D ay NC ad (aN NC ad)) (hm : meth.sig.returnType = (some .boolean) ∧ meth.locks = false)  (hf : F_X8_isDigit l0 σ = some r0)  (w : Wd D ay kC NC ad (aN NC ad) s σ H locs) (hl : lv_has ls 1 [(0, .int l0)]) : W p l e (rmK 0 0) s m args below meth c H locs 0 0 (MQ below (cI D ay kC NC ad r0 σ) args s 0 0 (aN NC ad)) (F0 m 0 ls []) := by
  unfold F_X8_isDigit at hf
  refine lv_iload_n G.hx G.hb (dcs_get dec_X8_isDigit_0 0 rfl) rfl (lv_at hl 0 rfl) ?_
  refine lv_bipush (v := (48 : Int32)) G.hx G.hb (dcs_get dec_X8_isDigit_0 1 rfl) (by decide) ?_
  refine lv_icmp_lt (tgt := 16) G.hx G.hb (dcs_get dec_X8_isDigit_0 2 rfl) (by decide) (fun hc => ?_) (fun hc => ?_)
  · rw [if_pos hc] at hf
    exact B_X8_isDigit_16  σ G hm  hf  w (lv_sub hl [] rfl)
  · rw [if_neg hc] at hf
    refine lv_iload_n G.hx G.hb (dcs_get dec_X8_isDigit_0 3 rfl) rfl (lv_at hl 0 rfl) ?_
    refine lv_bipush (v := (57 : Int32)) G.hx G.hb (dcs_get dec_X8_isDigit_0 4 rfl) (by decide) ?_
    refine lv_icmp_gt (tgt := 16) G.hx G.hb (dcs_get dec_X8_isDigit_0 5 rfl) (by decide) (fun hc => ?_) (fun hc => ?_)
    · rw [if_pos hc] at hf
      exact B_X8_isDigit_16  σ G hm  hf  w (lv_sub hl [] rfl)
    · rw [if_neg hc] at hf
      refine lv_iconst (v := (1 : Int32)) G.hx G.hb (dcs_get dec_X8_isDigit_0 6 rfl) (by decide) ?_
      refine lv_goto (tgt := 17) G.hx G.hb (dcs_get dec_X8_isDigit_0 7 rfl) (by decide) ?_
      exact B_X8_isDigit_17 (1 : Int32) σ G hm  hf  w (lv_sub hl [] rfl)
end
set_option maxRecDepth 100000 in
set_option maxHeartbeats 4000000 in
theorem C_X8_isDigit {l : Launch} {D : va_G} {ay : Nat → ClassId} {ad : Nat → Nat} (hi : hInj NC ad) (l0 : Int32) (σ : hSt) {r0 : Int32} (hf : F_X8_isDigit l0 σ = some r0)  : hM l D ay kC NC ad yX8_isDigit cX8_isDigit 1 ((some .boolean)) (rmK 0 0) [.int l0] σ (cI D ay kC NC ad r0 σ) := by
  refine hM_in (by decide) hi (Nat.le_of_ble_eq_true rfl) ?_
  intro p e s m below meth c G hm w ls hl
  exact B_X8_isDigit_0 l0 σ G hm  hf w (lv_sub hl [0] rfl)

/-! HillDrums.Tokens.keepDigits(LHillDrums$Tape;II)I -/
def DL_X8_keepDigits_0 : List (Nat × Instr × Nat) := [(0, .iload_n 2, 1), (1, .istore 4, 2), (3, .iload 4, 2), (5, .aload_n 1, 1), (6, .getfield 30, 3), (9, .if_icmp .ge 48, 3), (12, .aload_n 1, 1), (13, .iload 4, 2), (15, .invokevirtual 36, 3), (18, .invokestatic 50, 3), (21, .ifCond .eq 36, 3), (24, .aload_n 0, 1), (25, .getfield 18, 3), (28, .iload_n 3, 1), (29, .aload_n 0, 1), (30, .getfield 18, 3), (33, .iload_n 3, 1), (34, .laload, 1), (35, .ldc2_w 74, 3), (38, .lmul, 1), (39, .aload_n 1, 1), (40, .iload 4, 2), (42, .invokevirtual 36, 3), (45, .bipush 48, 2), (47, .isub, 1), (48, .i2l, 1), (49, .ladd, 1), (50, .lastore, 1), (51, .iinc 4 1, 3), (54, .goto (-51), 3), (57, .aload_n 0, 1), (58, .getfield 9, 3), (61, .iload_n 3, 1), (62, .iload 4, 2), (64, .iload_n 2, 1), (65, .isub, 1), (66, .iconst 4, 1), (67, .if_icmp .le 7, 3), (70, .iconst 1, 1), (71, .goto 4, 3)]
set_option maxRecDepth 100000 in
theorem dec_X8_keepDigits_0 : dcs cX8_keepDigits DL_X8_keepDigits_0 = true := by decide +kernel
def DL_X8_keepDigits_1 : List (Nat × Instr × Nat) := [(74, .iconst 3, 1), (75, .iastore, 1), (76, .iload 4, 2), (78, .ireturn, 1)]
set_option maxRecDepth 100000 in
theorem dec_X8_keepDigits_1 : dcs cX8_keepDigits DL_X8_keepDigits_1 = true := by decide +kernel
theorem lb_X8_keepDigits : lkB yX8_keepDigits cX8_keepDigits 5 ((some .int)) 3 := ⟨q_528, q_7, ⟨by decide, by decide⟩, by decide +kernel⟩
theorem lv_X8_keepDigits : lkV yX8_keepDigits := ⟨q_527, qs_11⟩
def F_X8_keepDigits_75 (l4 : Int32) (s0 : Nat) (s1 : Int32) (s2 : Int32) (σ : hSt) : Option (Int32 × hSt) :=
cG (inb s1 (kC s0).2) <|
cL (uI σ s0 s1.toNatClampNeg s2) fun σ2 =>
some ((l4, σ2))
def F_X8_keepDigits_57 (a0 : Nat) (l2 : Int32) (l3 : Int32) (l4 : Int32) (σ : hSt) : Option (Int32 × hSt) :=
cR (σ.2.2 a0 0) (okr kC NC 101) fun z3 =>
if (l4 - l2) ≤ (4 : Int32) then (
F_X8_keepDigits_75 l4 z3 l3 (3 : Int32) σ) else (
F_X8_keepDigits_75 l4 z3 l3 (1 : Int32) σ)
def F_X8_keepDigits_3b (a0 : Nat) (a1 : Nat) (l2 : Int32) (l3 : Int32) (l4 : Int32) (σ : hSt) : Option ((Int32 × hSt) ⊕ (Int32 × hSt)) :=
if (σ.1 a1 1) ≤ l4 then (
(F_X8_keepDigits_57 a0 l2 l3 l4 σ).map (fun x => .inr (x))) else (
(F_X6_byteAt a1 l4 σ).bind fun v5 =>
(F_X8_isDigit v5 σ).bind fun v7 =>
if v7 = 0 then (
(F_X8_keepDigits_57 a0 l2 l3 l4 σ).map (fun x => .inr (x))) else (
cR (σ.2.2 a0 2) (okr kC NC 103) fun z8 =>
cR (σ.2.2 a0 2) (okr kC NC 103) fun z9 =>
cG (inb l3 (kC z9).2) <|
(F_X6_byteAt a1 l4 σ).bind fun v12 =>
cG (inb l3 (kC z8).2) <|
cL (uJ σ z8 l3.toNatClampNeg (((σ.2.1 z9 l3.toNatClampNeg) * (10 : Int64)) + ((v12 - (48 : Int32)).toInt64))) fun σ14 =>
cL (l4 + (1 : Int32)) fun v15 =>
some (.inl (v15, σ14))))
def S_X8_keepDigits_3 (a0 : Nat) (a1 : Nat) (l2 : Int32) (l3 : Int32) (v : Int32 × hSt) : Option ((Int32 × hSt) ⊕ (Int32 × hSt)) := F_X8_keepDigits_3b a0 a1 l2 l3 v.1 v.2
def F_X8_keepDigits_3 (a0 : Nat) (a1 : Nat) (l2 : Int32) (l3 : Int32) (l4 : Int32) (σ : hSt) : Option (Int32 × hSt) := lp (S_X8_keepDigits_3 a0 a1 l2 l3) fuel (l4, σ)
def F_X8_keepDigits (a0 : Nat) (a1 : Nat) (l2 : Int32) (l3 : Int32) (σ : hSt) : Option (Int32 × hSt) :=
F_X8_keepDigits_3 a0 a1 l2 l3 l2 σ
section
variable {p : Program} {l : Launch} {e : Env} {s : State} {m : MethodId} {args : Array Value} {below : List Frame} {meth : Method} {c : Code} {D : va_G} {ay : Nat → ClassId} {ad : Nat → Nat}
set_option maxRecDepth 100000 in
set_option maxHeartbeats 4000000 in
theorem B_X8_keepDigits_75 {H : Heap} {locs : List Loc} {ls : Array Slot} {r0 : Int32} {σ0 : hSt} (l4 : Int32) (s0 : Nat) (s1 : Int32) (s2 : Int32) (σ : hSt) (G : Gx p m c cX8_keepDigits 5 s args RX8 D ay NC ad (aN NC ad)) (hm : meth.sig.returnType = (some .int) ∧ meth.locks = false) (ok_s0 : okr kC NC 101 s0 = true) (hf : F_X8_keepDigits_75 l4 s0 s1 s2 σ = some (r0, σ0))  (w : Wd D ay kC NC ad (aN NC ad) s σ H locs) (hl : lv_has ls 5 [(4, .int l4)]) : W p l e (rmK 1 21) s m args below meth c H locs 0 0 (MQ below (cI D ay kC NC ad r0 σ0) args s 0 0 (aN NC ad)) (F0 m 75 ls [.int s2, .int s1, .ref (ad s0)]) := by
  have k_s0 := okr_in ok_s0
  unfold F_X8_keepDigits_75 at hf
  obtain ⟨h1, hf⟩ := cG_some hf
  obtain ⟨σ2, e_σ2, hf⟩ := cL_some hf
  refine r_iast G w k_s0.1 k_s0.2 h1 (dcs_get dec_X8_keepDigits_1 1 rfl) (fun H locs w => ?_)
  have w := Wd.nm e_σ2 w
  refine lv_iload G.hx G.hb (dcs_get dec_X8_keepDigits_1 2 rfl) (lv_at hl 0 rfl) ?_
  have e9 := Option.some.inj hf
  exact r_iret G w hm (congrArg Prod.fst e9) (congrArg Prod.snd e9) (dcs_get dec_X8_keepDigits_1 3 rfl)
set_option maxRecDepth 100000 in
set_option maxHeartbeats 4000000 in
theorem B_X8_keepDigits_57 {H : Heap} {locs : List Loc} {ls : Array Slot} {r0 : Int32} {σ0 : hSt} (a0 : Nat) (l2 : Int32) (l3 : Int32) (l4 : Int32) (σ : hSt) (G : Gx p m c cX8_keepDigits 5 s args RX8 D ay NC ad (aN NC ad)) (hm : meth.sig.returnType = (some .int) ∧ meth.locks = false) (ok_a0 : okr kC NC 8 a0 = true) (hf : F_X8_keepDigits_57 a0 l2 l3 l4 σ = some (r0, σ0))  (w : Wd D ay kC NC ad (aN NC ad) s σ H locs) (hl : lv_has ls 5 [(0, .ref (ad a0)), (2, .int l2), (3, .int l3), (4, .int l4)]) : W p l e (rmK 1 21) s m args below meth c H locs 0 0 (MQ below (cI D ay kC NC ad r0 σ0) args s 0 0 (aN NC ad)) (F0 m 57 ls []) := by
  have k_a0 := okr_in ok_a0
  unfold F_X8_keepDigits_57 at hf
  refine lv_aload_n G.hx G.hb (dcs_get dec_X8_keepDigits_0 30 rfl) rfl (lv_at hl 0 rfl) ?_
  obtain ⟨z3, e_z3, ok_z3, hf⟩ := cR_some hf
  have k_z3 := okr_in ok_z3
  refine r_getr (k := 0) cls8 fi_8_0.1 fi_8_0.2 q_184 G w k_a0.1 k_a0.2 e_z3 (dcs_get dec_X8_keepDigits_0 31 rfl) ?_
  refine lv_iload_n G.hx G.hb (dcs_get dec_X8_keepDigits_0 32 rfl) rfl (lv_at hl 2 rfl) ?_
  refine lv_iload G.hx G.hb (dcs_get dec_X8_keepDigits_0 33 rfl) (lv_at hl 3 rfl) ?_
  refine lv_iload_n G.hx G.hb (dcs_get dec_X8_keepDigits_0 34 rfl) rfl (lv_at hl 1 rfl) ?_
  refine lv_isub G.hx G.hb (dcs_get dec_X8_keepDigits_0 35 rfl) ?_
  refine lv_iconst (v := (4 : Int32)) G.hx G.hb (dcs_get dec_X8_keepDigits_0 36 rfl) (by decide) ?_
  refine lv_icmp_le (tgt := 74) G.hx G.hb (dcs_get dec_X8_keepDigits_0 37 rfl) (by decide) (fun hc => ?_) (fun hc => ?_)
  · rw [if_pos hc] at hf
    refine lv_iconst (v := (3 : Int32)) G.hx G.hb (dcs_get dec_X8_keepDigits_1 0 rfl) (by decide) ?_
    exact B_X8_keepDigits_75 l4 z3 l3 (3 : Int32) σ G hm ok_z3 hf  w (lv_sub hl [3] rfl)
  · rw [if_neg hc] at hf
    refine lv_iconst (v := (1 : Int32)) G.hx G.hb (dcs_get dec_X8_keepDigits_0 38 rfl) (by decide) ?_
    refine lv_goto (tgt := 75) G.hx G.hb (dcs_get dec_X8_keepDigits_0 39 rfl) (by decide) ?_
    exact B_X8_keepDigits_75 l4 z3 l3 (1 : Int32) σ G hm ok_z3 hf  w (lv_sub hl [3] rfl)
set_option maxRecDepth 100000 in
set_option maxHeartbeats 4000000 in
theorem B_X8_keepDigits_3b {H : Heap} {locs : List Loc} {ls : Array Slot} {r0 : Int32} {σ0 : hSt} {o : (Int32 × hSt) ⊕ (Int32 × hSt)} (a0 : Nat) (a1 : Nat) (l2 : Int32) (l3 : Int32) (l4 : Int32) (σ : hSt) (G : Gx p m c cX8_keepDigits 5 s args RX8 D ay NC ad (aN NC ad)) (hm : meth.sig.returnType = (some .int) ∧ meth.locks = false) (ok_a0 : okr kC NC 8 a0 = true) (ok_a1 : okr kC NC 6 a1 = true) (hf : F_X8_keepDigits_3b a0 a1 l2 l3 l4 σ = some o) (hb0 : ∀ (v : Int32 × hSt), o = .inl v → ∀ (H : Heap) (locs : List Loc) (ls : Array Slot), Wd D ay kC NC ad (aN NC ad) s v.2 H locs → lv_has ls 5 [(0, .ref (ad a0)), (1, .ref (ad a1)), (2, .int l2), (3, .int l3), (4, .int v.1)] → W p l e (rmK 1 21) s m args below meth c H locs 0 0 (MQ below (cI D ay kC NC ad r0 σ0) args s 0 0 (aN NC ad)) (F0 m 3 ls [])) (hr : ∀ x, o = .inr (x) → x = (r0, σ0)) (w : Wd D ay kC NC ad (aN NC ad) s σ H locs) (hl : lv_has ls 5 [(0, .ref (ad a0)), (1, .ref (ad a1)), (2, .int l2), (3, .int l3), (4, .int l4)]) : W p l e (rmK 1 21) s m args below meth c H locs 0 0 (MQ below (cI D ay kC NC ad r0 σ0) args s 0 0 (aN NC ad)) (F0 m 3 ls []) := by
  have k_a0 := okr_in ok_a0
  have k_a1 := okr_in ok_a1
  unfold F_X8_keepDigits_3b at hf
  refine lv_iload G.hx G.hb (dcs_get dec_X8_keepDigits_0 2 rfl) (lv_at hl 4 rfl) ?_
  refine lv_aload_n G.hx G.hb (dcs_get dec_X8_keepDigits_0 3 rfl) rfl (lv_at hl 1 rfl) ?_
  refine r_getiN (k := 1) cls6 fi_6_1.1 fi_6_1.2 nf_40 G w k_a1.1 k_a1.2 (dcs_get dec_X8_keepDigits_0 4 rfl) ?_
  refine lv_icmp_ge (tgt := 57) G.hx G.hb (dcs_get dec_X8_keepDigits_0 5 rfl) (by decide) (fun hc => ?_) (fun hc => ?_)
  · rw [if_pos hc] at hf
    obtain ⟨x9, h9, e9⟩ := map_some_inv hf
    subst e9
    have e8 := hr _ rfl
    rw [e8] at h9
    exact B_X8_keepDigits_57 a0 l2 l3 l4 σ G hm ok_a0 h9 w (lv_sub hl [0, 2, 3, 4] rfl)
  · rw [if_neg hc] at hf
    refine lv_aload_n G.hx G.hb (dcs_get dec_X8_keepDigits_0 6 rfl) rfl (lv_at hl 1 rfl) ?_
    refine lv_iload G.hx G.hb (dcs_get dec_X8_keepDigits_0 7 rfl) (lv_at hl 4 rfl) ?_
    obtain ⟨v5, h4, hf⟩ := cB_some hf
    refine a_i (k_VN (As := [.int l4]) (rest := []) cls6 lb_X6_byteAt lv_X6_byteAt nm_459 (C_X6_byteAt G.2.2.1 a1 l4 σ h4 ok_a1) ⟨(Nat.le_of_ble_eq_true rfl), (Nat.le_of_ble_eq_true rfl)⟩ G w k_a1.1 k_a1.2 rfl rfl hl.1 (Nat.le_of_ble_eq_true rfl) (dcs_get dec_X8_keepDigits_0 8 rfl) ⟨Nat.le_refl _, Nat.le_refl _⟩) G w (fun H locs w => ?_)
    obtain ⟨v7, h6, hf⟩ := cB_some hf
    refine a_i (k_S (As := [.int v5]) (rest := []) lb_X8_isDigit q_523 q_522 (C_X8_isDigit G.2.2.1 v5 σ h6 ) ⟨(Nat.le_of_ble_eq_true rfl), (Nat.le_of_ble_eq_true rfl)⟩ G w rfl rfl hl.1 (Nat.le_of_ble_eq_true rfl) (dcs_get dec_X8_keepDigits_0 9 rfl) ⟨Nat.le_refl _, Nat.le_refl _⟩) G w (fun H locs w => ?_)
    refine lv_if_eq (tgt := 57) G.hx G.hb (dcs_get dec_X8_keepDigits_0 10 rfl) (by decide) (fun hc => ?_) (fun hc => ?_)
    · rw [if_pos hc] at hf
      obtain ⟨x9, h9, e9⟩ := map_some_inv hf
      subst e9
      have e8 := hr _ rfl
      rw [e8] at h9
      exact B_X8_keepDigits_57 a0 l2 l3 l4 σ G hm ok_a0 h9 w (lv_sub hl [0, 2, 3, 4] rfl)
    · rw [if_neg hc] at hf
      refine lv_aload_n G.hx G.hb (dcs_get dec_X8_keepDigits_0 11 rfl) rfl (lv_at hl 0 rfl) ?_
      obtain ⟨z8, e_z8, ok_z8, hf⟩ := cR_some hf
      have k_z8 := okr_in ok_z8
      refine r_getr (k := 2) cls8 fi_8_2.1 fi_8_2.2 q_188 G w k_a0.1 k_a0.2 e_z8 (dcs_get dec_X8_keepDigits_0 12 rfl) ?_
      refine lv_iload_n G.hx G.hb (dcs_get dec_X8_keepDigits_0 13 rfl) rfl (lv_at hl 3 rfl) ?_
      refine lv_aload_n G.hx G.hb (dcs_get dec_X8_keepDigits_0 14 rfl) rfl (lv_at hl 0 rfl) ?_
      obtain ⟨z9, e_z9, ok_z9, hf⟩ := cR_some hf
      have k_z9 := okr_in ok_z9
      refine r_getr (k := 2) cls8 fi_8_2.1 fi_8_2.2 q_188 G w k_a0.1 k_a0.2 e_z9 (dcs_get dec_X8_keepDigits_0 15 rfl) ?_
      refine lv_iload_n G.hx G.hb (dcs_get dec_X8_keepDigits_0 16 rfl) rfl (lv_at hl 3 rfl) ?_
      obtain ⟨h10, hf⟩ := cG_some hf
      refine r_lald G w k_z9.1 k_z9.2 h10 (dcs_get dec_X8_keepDigits_0 17 rfl) ?_
      refine lv_ldc2 G.hx G.hb G.hown (G.hts _ q_529) (dcs_get dec_X8_keepDigits_0 18 rfl) ?_
      refine lv_lmul G.hx G.hb (dcs_get dec_X8_keepDigits_0 19 rfl) ?_
      refine lv_aload_n G.hx G.hb (dcs_get dec_X8_keepDigits_0 20 rfl) rfl (lv_at hl 1 rfl) ?_
      refine lv_iload G.hx G.hb (dcs_get dec_X8_keepDigits_0 21 rfl) (lv_at hl 4 rfl) ?_
      obtain ⟨v12, h11, hf⟩ := cB_some hf
      refine a_i (k_VN (As := [.int l4]) (rest := [.long ((σ.2.1 z9 l3.toNatClampNeg) * (10 : Int64)), .int l3, .ref (ad z8)]) cls6 lb_X6_byteAt lv_X6_byteAt nm_459 (C_X6_byteAt G.2.2.1 a1 l4 σ h11 ok_a1) ⟨(Nat.le_of_ble_eq_true rfl), (Nat.le_of_ble_eq_true rfl)⟩ G w k_a1.1 k_a1.2 rfl rfl hl.1 (Nat.le_of_ble_eq_true rfl) (dcs_get dec_X8_keepDigits_0 22 rfl) ⟨Nat.le_refl _, Nat.le_refl _⟩) G w (fun H locs w => ?_)
      refine lv_bipush (v := (48 : Int32)) G.hx G.hb (dcs_get dec_X8_keepDigits_0 23 rfl) (by decide) ?_
      refine lv_isub G.hx G.hb (dcs_get dec_X8_keepDigits_0 24 rfl) ?_
      refine lv_i2l G.hx G.hb (dcs_get dec_X8_keepDigits_0 25 rfl) rfl ?_
      refine lv_ladd G.hx G.hb (dcs_get dec_X8_keepDigits_0 26 rfl) ?_
      obtain ⟨h13, hf⟩ := cG_some hf
      obtain ⟨σ14, e_σ14, hf⟩ := cL_some hf
      refine r_last G w k_z8.1 k_z8.2 h13 (dcs_get dec_X8_keepDigits_0 27 rfl) (fun H locs w => ?_)
      have w := Wd.nm e_σ14 w
      obtain ⟨v15, e_v15, hf⟩ := cL_some hf
      refine lv_iinc (v := v15) (lv' := [(4, .int v15), (0, .ref (ad a0)), (1, .ref (ad a1)), (2, .int l2), (3, .int l3)]) G.hx G.hb (dcs_get dec_X8_keepDigits_0 28 rfl) hl (k := 4) rfl (by rw [e_v15]; rfl) (by decide) rfl (fun ls hl => ?_)
      refine lv_goto (tgt := 3) G.hx G.hb (dcs_get dec_X8_keepDigits_0 29 rfl) (by decide) ?_
      exact hb0 _ (Option.some.inj hf).symm _ _ _ w (lv_sub hl [1, 2, 3, 4, 0] rfl)
set_option maxRecDepth 100000 in
set_option maxHeartbeats 4000000 in
theorem H_X8_keepDigits_3 {r0 : Int32} {σ0 : hSt} (a0 : Nat) (a1 : Nat) (l2 : Int32) (l3 : Int32) (G : Gx p m c cX8_keepDigits 5 s args RX8 D ay NC ad (aN NC ad)) (hm : meth.sig.returnType = (some .int) ∧ meth.locks = false) (ok_a0 : okr kC NC 8 a0 = true) (ok_a1 : okr kC NC 6 a1 = true)  : ∀ (k : Nat) (v : Int32 × hSt), lp (S_X8_keepDigits_3 a0 a1 l2 l3) k v = some (r0, σ0) → ∀ (H : Heap) (locs : List Loc) (ls : Array Slot), Wd D ay kC NC ad (aN NC ad) s v.2 H locs → lv_has ls 5 [(0, .ref (ad a0)), (1, .ref (ad a1)), (2, .int l2), (3, .int l3), (4, .int v.1)] → W p l e (rmK 1 21) s m args below meth c H locs 0 0 (MQ below (cI D ay kC NC ad r0 σ0) args s 0 0 (aN NC ad)) (F0 m 3 ls []) := by
  intro k
  induction k with
  | zero => intro v hf; cases hf
  | succ k ih =>
    intro v hf H locs ls w hl
    obtain ⟨o1, h1, h2, h3⟩ := lp_some hf
    exact B_X8_keepDigits_3b a0 a1 l2 l3 v.1 v.2 G hm ok_a0 ok_a1 h1  (fun v' e => ih v' (h2 v' e)) (fun x e => h3 x e) w hl
set_option maxRecDepth 100000 in
set_option maxHeartbeats 4000000 in
theorem B_X8_keepDigits_3 {H : Heap} {locs : List Loc} {ls : Array Slot} {r0 : Int32} {σ0 : hSt} (a0 : Nat) (a1 : Nat) (l2 : Int32) (l3 : Int32) (l4 : Int32) (σ : hSt) (G : Gx p m c cX8_keepDigits 5 s args RX8 D ay NC ad (aN NC ad)) (hm : meth.sig.returnType = (some .int) ∧ meth.locks = false) (ok_a0 : okr kC NC 8 a0 = true) (ok_a1 : okr kC NC 6 a1 = true) (hf : F_X8_keepDigits_3 a0 a1 l2 l3 l4 σ = some (r0, σ0))  (w : Wd D ay kC NC ad (aN NC ad) s σ H locs) (hl : lv_has ls 5 [(0, .ref (ad a0)), (1, .ref (ad a1)), (2, .int l2), (3, .int l3), (4, .int l4)]) : W p l e (rmK 1 21) s m args below meth c H locs 0 0 (MQ below (cI D ay kC NC ad r0 σ0) args s 0 0 (aN NC ad)) (F0 m 3 ls []) := by
  unfold F_X8_keepDigits_3 at hf
  exact H_X8_keepDigits_3 a0 a1 l2 l3  G hm ok_a0 ok_a1  fuel (l4, σ) hf _ _ _ w hl
set_option maxRecDepth 100000 in
set_option maxHeartbeats 4000000 in
theorem B_X8_keepDigits_0 {H : Heap} {locs : List Loc} {ls : Array Slot} {r0 : Int32} {σ0 : hSt} (a0 : Nat) (a1 : Nat) (l2 : Int32) (l3 : Int32) (σ : hSt) (G : Gx p m c cX8_keepDigits 5 s args RX8 D ay NC ad (aN NC ad)) (hm : meth.sig.returnType = (some .int) ∧ meth.locks = false) (ok_a0 : okr kC NC 8 a0 = true) (ok_a1 : okr kC NC 6 a1 = true) (hf : F_X8_keepDigits a0 a1 l2 l3 σ = some (r0, σ0))  (w : Wd D ay kC NC ad (aN NC ad) s σ H locs) (hl : lv_has ls 5 [(0, .ref (ad a0)), (1, .ref (ad a1)), (2, .int l2), (3, .int l3)]) : W p l e (rmK 1 21) s m args below meth c H locs 0 0 (MQ below (cI D ay kC NC ad r0 σ0) args s 0 0 (aN NC ad)) (F0 m 0 ls []) := by
  have k_a0 := okr_in ok_a0
  have k_a1 := okr_in ok_a1
  unfold F_X8_keepDigits at hf
  refine lv_iload_n G.hx G.hb (dcs_get dec_X8_keepDigits_0 0 rfl) rfl (lv_at hl 2 rfl) ?_
  refine lv_istore (lv' := [(4, .int l2), (0, .ref (ad a0)), (1, .ref (ad a1)), (2, .int l2), (3, .int l3)]) G.hx G.hb (dcs_get dec_X8_keepDigits_0 1 rfl) hl (by decide) rfl (fun ls hl => ?_)
  exact B_X8_keepDigits_3 a0 a1 l2 l3 l2 σ G hm ok_a0 ok_a1 hf  w (lv_sub hl [1, 2, 3, 4, 0] rfl)
end
set_option maxRecDepth 100000 in
set_option maxHeartbeats 4000000 in
theorem C_X8_keepDigits {l : Launch} {D : va_G} {ay : Nat → ClassId} {ad : Nat → Nat} (hi : hInj NC ad) (a0 : Nat) (a1 : Nat) (l2 : Int32) (l3 : Int32) (σ : hSt) {r0 : Int32} {σ0 : hSt} (hf : F_X8_keepDigits a0 a1 l2 l3 σ = some (r0, σ0)) (ok_a0 : okr kC NC 8 a0 = true) (ok_a1 : okr kC NC 6 a1 = true) : hM l D ay kC NC ad yX8_keepDigits cX8_keepDigits 5 ((some .int)) (rmK 1 21) [.ref (ad a0), .ref (ad a1), .int l2, .int l3] σ (cI D ay kC NC ad r0 σ0) := by
  refine hM_in (by decide) hi (Nat.le_of_ble_eq_true rfl) ?_
  intro p e s m below meth c G hm w ls hl
  exact B_X8_keepDigits_0 a0 a1 l2 l3 σ G hm ok_a0 ok_a1 hf w (lv_sub hl [0, 1, 2, 3] rfl)

/-! HillDrums.Tokens.keep(LHillDrums$Tape;II)I -/
def DL_X8_keep_0 : List (Nat × Instr × Nat) := [(0, .aload_n 1, 1), (1, .iload_n 2, 1), (2, .invokevirtual 36, 3), (5, .istore 4, 2), (7, .aload_n 0, 1), (8, .getfield 18, 3), (11, .iload_n 3, 1), (12, .lconst 0, 1), (13, .lastore, 1), (14, .iload 4, 2), (16, .iconst (-1), 1), (17, .if_icmp .ne 12, 3), (20, .aload_n 0, 1), (21, .getfield 9, 3), (24, .iload_n 3, 1), (25, .iconst 0, 1), (26, .iastore, 1), (27, .iload_n 2, 1), (28, .ireturn, 1), (29, .iload 4, 2), (31, .invokestatic 44, 3), (34, .ifCond .eq 11, 3), (37, .aload_n 0, 1), (38, .aload_n 1, 1), (39, .iload_n 2, 1), (40, .iload_n 3, 1), (41, .invokevirtual 47, 3), (44, .ireturn, 1), (45, .iload 4, 2), (47, .invokestatic 50, 3), (50, .ifCond .eq 11, 3), (53, .aload_n 0, 1), (54, .aload_n 1, 1), (55, .iload_n 2, 1), (56, .iload_n 3, 1), (57, .invokevirtual 53, 3), (60, .ireturn, 1), (61, .aload_n 0, 1), (62, .getfield 9, 3), (65, .iload_n 3, 1)]
set_option maxRecDepth 100000 in
theorem dec_X8_keep_0 : dcs cX8_keep DL_X8_keep_0 = true := by decide +kernel
def DL_X8_keep_1 : List (Nat × Instr × Nat) := [(66, .ldc 56, 2), (68, .iload 4, 2), (70, .i2c, 1), (71, .invokevirtual 58, 3), (74, .ifCond .lt 8, 3), (77, .iload 4, 2), (79, .goto 4, 3), (82, .iconst 1, 1), (83, .iastore, 1), (84, .iload_n 2, 1), (85, .iconst 1, 1), (86, .iadd, 1), (87, .ireturn, 1)]
set_option maxRecDepth 100000 in
theorem dec_X8_keep_1 : dcs cX8_keep DL_X8_keep_1 = true := by decide +kernel
theorem lb_X8_keep : lkB yX8_keep cX8_keep 5 ((some .int)) 3 := ⟨q_469, q_7, ⟨by decide, by decide⟩, by decide +kernel⟩
theorem lv_X8_keep : lkV yX8_keep := ⟨q_468, qs_9⟩
def F_X8_keep_83 (l2 : Int32) (s0 : Nat) (s1 : Int32) (s2 : Int32) (σ : hSt) : Option (Int32 × hSt) :=
cG (inb s1 (kC s0).2) <|
cL (uI σ s0 s1.toNatClampNeg s2) fun σ2 =>
some ((l2 + (1 : Int32), σ2))
def F_X8_keep (a0 : Nat) (a1 : Nat) (l2 : Int32) (l3 : Int32) (σ : hSt) : Option (Int32 × hSt) :=
(F_X6_byteAt a1 l2 σ).bind fun v4 =>
cR (σ.2.2 a0 2) (okr kC NC 103) fun z5 =>
cG (inb l3 (kC z5).2) <|
cL (uJ σ z5 l3.toNatClampNeg (0 : Int64)) fun σ7 =>
if v4 = (-1 : Int32) then (
cR (σ7.2.2 a0 0) (okr kC NC 101) fun z21 =>
cG (inb l3 (kC z21).2) <|
cL (uI σ7 z21 l3.toNatClampNeg (0 : Int32)) fun σ23 =>
some ((l2, σ23))) else (
(F_X8_isLetter v4 σ7).bind fun v9 =>
if v9 = 0 then (
(F_X8_isDigit v4 σ7).bind fun v11 =>
if v11 = 0 then (
cR (σ7.2.2 a0 0) (okr kC NC 101) fun z12 =>
cG (isC8 ((v4.toUInt32 % 65536).toInt32)) <|
if (signsIdx ((v4.toUInt32 % 65536).toInt32)) < 0 then (
F_X8_keep_83 l2 z12 l3 (1 : Int32) σ7) else (
F_X8_keep_83 l2 z12 l3 v4 σ7)) else (
cC (F_X8_keepDigits a0 a1 l2 l3 σ7) fun v16 σ17 =>
some ((v16, σ17)))) else (
cC (F_X8_keepLetters a0 a1 l2 l3 σ7) fun v19 σ20 =>
some ((v19, σ20))))
section
variable {p : Program} {l : Launch} {e : Env} {s : State} {m : MethodId} {args : Array Value} {below : List Frame} {meth : Method} {c : Code} {D : va_G} {ay : Nat → ClassId} {ad : Nat → Nat}
set_option maxRecDepth 100000 in
set_option maxHeartbeats 4000000 in
theorem B_X8_keep_83 {H : Heap} {locs : List Loc} {ls : Array Slot} {r0 : Int32} {σ0 : hSt} (l2 : Int32) (s0 : Nat) (s1 : Int32) (s2 : Int32) (σ : hSt) (G : Gx p m c cX8_keep 5 s args RX8 D ay NC ad (aN NC ad)) (hm : meth.sig.returnType = (some .int) ∧ meth.locks = false) (ok_s0 : okr kC NC 101 s0 = true) (hf : F_X8_keep_83 l2 s0 s1 s2 σ = some (r0, σ0))  (w : Wd D ay kC NC ad (aN NC ad) s σ H locs) (hl : lv_has ls 5 [(2, .int l2)]) : W p l e (rmK 8 300) s m args below meth c H locs 0 0 (MQ below (cI D ay kC NC ad r0 σ0) args s 0 0 (aN NC ad)) (F0 m 83 ls [.int s2, .int s1, .ref (ad s0)]) := by
  have k_s0 := okr_in ok_s0
  unfold F_X8_keep_83 at hf
  obtain ⟨h1, hf⟩ := cG_some hf
  obtain ⟨σ2, e_σ2, hf⟩ := cL_some hf
  refine r_iast G w k_s0.1 k_s0.2 h1 (dcs_get dec_X8_keep_1 8 rfl) (fun H locs w => ?_)
  have w := Wd.nm e_σ2 w
  refine lv_iload_n G.hx G.hb (dcs_get dec_X8_keep_1 9 rfl) rfl (lv_at hl 0 rfl) ?_
  refine lv_iconst (v := (1 : Int32)) G.hx G.hb (dcs_get dec_X8_keep_1 10 rfl) (by decide) ?_
  refine lv_iadd G.hx G.hb (dcs_get dec_X8_keep_1 11 rfl) ?_
  have e9 := Option.some.inj hf
  exact r_iret G w hm (congrArg Prod.fst e9) (congrArg Prod.snd e9) (dcs_get dec_X8_keep_1 12 rfl)
set_option maxRecDepth 100000 in
set_option maxHeartbeats 4000000 in
theorem B_X8_keep_0 {H : Heap} {locs : List Loc} {ls : Array Slot} {r0 : Int32} {σ0 : hSt} (a0 : Nat) (a1 : Nat) (l2 : Int32) (l3 : Int32) (σ : hSt) (G : Gx p m c cX8_keep 5 s args RX8 D ay NC ad (aN NC ad)) (hm : meth.sig.returnType = (some .int) ∧ meth.locks = false) (ok_a0 : okr kC NC 8 a0 = true) (ok_a1 : okr kC NC 6 a1 = true) (hf : F_X8_keep a0 a1 l2 l3 σ = some (r0, σ0))  (w : Wd D ay kC NC ad (aN NC ad) s σ H locs) (hl : lv_has ls 5 [(0, .ref (ad a0)), (1, .ref (ad a1)), (2, .int l2), (3, .int l3)]) : W p l e (rmK 8 300) s m args below meth c H locs 0 0 (MQ below (cI D ay kC NC ad r0 σ0) args s 0 0 (aN NC ad)) (F0 m 0 ls []) := by
  have k_a0 := okr_in ok_a0
  have k_a1 := okr_in ok_a1
  unfold F_X8_keep at hf
  refine lv_aload_n G.hx G.hb (dcs_get dec_X8_keep_0 0 rfl) rfl (lv_at hl 1 rfl) ?_
  refine lv_iload_n G.hx G.hb (dcs_get dec_X8_keep_0 1 rfl) rfl (lv_at hl 2 rfl) ?_
  obtain ⟨v4, h3, hf⟩ := cB_some hf
  refine a_i (k_VN (As := [.int l2]) (rest := []) cls6 lb_X6_byteAt lv_X6_byteAt nm_459 (C_X6_byteAt G.2.2.1 a1 l2 σ h3 ok_a1) ⟨(Nat.le_of_ble_eq_true rfl), (Nat.le_of_ble_eq_true rfl)⟩ G w k_a1.1 k_a1.2 rfl rfl hl.1 (Nat.le_of_ble_eq_true rfl) (dcs_get dec_X8_keep_0 2 rfl) ⟨Nat.le_refl _, Nat.le_refl _⟩) G w (fun H locs w => ?_)
  refine lv_istore (lv' := [(4, .int v4), (0, .ref (ad a0)), (1, .ref (ad a1)), (2, .int l2), (3, .int l3)]) G.hx G.hb (dcs_get dec_X8_keep_0 3 rfl) hl (by decide) rfl (fun ls hl => ?_)
  refine lv_aload_n G.hx G.hb (dcs_get dec_X8_keep_0 4 rfl) rfl (lv_at hl 1 rfl) ?_
  obtain ⟨z5, e_z5, ok_z5, hf⟩ := cR_some hf
  have k_z5 := okr_in ok_z5
  refine r_getr (k := 2) cls8 fi_8_2.1 fi_8_2.2 q_188 G w k_a0.1 k_a0.2 e_z5 (dcs_get dec_X8_keep_0 5 rfl) ?_
  refine lv_iload_n G.hx G.hb (dcs_get dec_X8_keep_0 6 rfl) rfl (lv_at hl 4 rfl) ?_
  refine lv_lconst (v := (0 : Int64)) G.hx G.hb (dcs_get dec_X8_keep_0 7 rfl) (by decide) ?_
  obtain ⟨h6, hf⟩ := cG_some hf
  obtain ⟨σ7, e_σ7, hf⟩ := cL_some hf
  refine r_last G w k_z5.1 k_z5.2 h6 (dcs_get dec_X8_keep_0 8 rfl) (fun H locs w => ?_)
  have w := Wd.nm e_σ7 w
  refine lv_iload G.hx G.hb (dcs_get dec_X8_keep_0 9 rfl) (lv_at hl 0 rfl) ?_
  refine lv_iconst (v := (-1 : Int32)) G.hx G.hb (dcs_get dec_X8_keep_0 10 rfl) (by decide) ?_
  refine lv_icmp_ne (tgt := 29) G.hx G.hb (dcs_get dec_X8_keep_0 11 rfl) (by decide) (fun hc => ?_) (fun hc => ?_)
  · rw [if_neg hc] at hf
    refine lv_iload G.hx G.hb (dcs_get dec_X8_keep_0 19 rfl) (lv_at hl 0 rfl) ?_
    obtain ⟨v9, h8, hf⟩ := cB_some hf
    refine a_i (k_S (As := [.int v4]) (rest := []) lb_X8_isLetter q_471 q_470 (C_X8_isLetter G.2.2.1 v4 σ7 h8 ) ⟨(Nat.le_of_ble_eq_true rfl), (Nat.le_of_ble_eq_true rfl)⟩ G w rfl rfl hl.1 (Nat.le_of_ble_eq_true rfl) (dcs_get dec_X8_keep_0 20 rfl) ⟨Nat.le_refl _, Nat.le_refl _⟩) G w (fun H locs w => ?_)
    refine lv_if_eq (tgt := 45) G.hx G.hb (dcs_get dec_X8_keep_0 21 rfl) (by decide) (fun hc => ?_) (fun hc => ?_)
    · rw [if_pos hc] at hf
      refine lv_iload G.hx G.hb (dcs_get dec_X8_keep_0 28 rfl) (lv_at hl 0 rfl) ?_
      obtain ⟨v11, h10, hf⟩ := cB_some hf
      refine a_i (k_S (As := [.int v4]) (rest := []) lb_X8_isDigit q_523 q_522 (C_X8_isDigit G.2.2.1 v4 σ7 h10 ) ⟨(Nat.le_of_ble_eq_true rfl), (Nat.le_of_ble_eq_true rfl)⟩ G w rfl rfl hl.1 (Nat.le_of_ble_eq_true rfl) (dcs_get dec_X8_keep_0 29 rfl) ⟨Nat.le_refl _, Nat.le_refl _⟩) G w (fun H locs w => ?_)
      refine lv_if_eq (tgt := 61) G.hx G.hb (dcs_get dec_X8_keep_0 30 rfl) (by decide) (fun hc => ?_) (fun hc => ?_)
      · rw [if_pos hc] at hf
        refine lv_aload_n G.hx G.hb (dcs_get dec_X8_keep_0 37 rfl) rfl (lv_at hl 1 rfl) ?_
        obtain ⟨z12, e_z12, ok_z12, hf⟩ := cR_some hf
        have k_z12 := okr_in ok_z12
        refine r_getr (k := 0) cls8 fi_8_0.1 fi_8_0.2 q_184 G w k_a0.1 k_a0.2 e_z12 (dcs_get dec_X8_keep_0 38 rfl) ?_
        refine lv_iload_n G.hx G.hb (dcs_get dec_X8_keep_0 39 rfl) rfl (lv_at hl 4 rfl) ?_
        refine r_ldcS1 G w (dcs_get dec_X8_keep_1 0 rfl) (fun q13 h_q13 => ?_)
        refine lv_iload G.hx G.hb (dcs_get dec_X8_keep_1 1 rfl) (lv_at hl 0 rfl) ?_
        refine lv_i2c G.hx G.hb (dcs_get dec_X8_keep_1 2 rfl) rfl ?_
        obtain ⟨h14, hf⟩ := cG_some hf
        refine r_indexOf ⟨Nat.le_of_ble_eq_true rfl, Nat.le_of_ble_eq_true rfl⟩ (Nat.le_of_ble_eq_true rfl) G w h_q13 h14 hl.1 (dcs_get dec_X8_keep_1 3 rfl) (fun H locs w => ?_)
        refine lv_if_lt (tgt := 82) G.hx G.hb (dcs_get dec_X8_keep_1 4 rfl) (by decide) (fun hc => ?_) (fun hc => ?_)
        · rw [if_pos hc] at hf
          refine lv_iconst (v := (1 : Int32)) G.hx G.hb (dcs_get dec_X8_keep_1 7 rfl) (by decide) ?_
          exact B_X8_keep_83 l2 z12 l3 (1 : Int32) σ7 G hm ok_z12 hf  w (lv_sub hl [3] rfl)
        · rw [if_neg hc] at hf
          refine lv_iload G.hx G.hb (dcs_get dec_X8_keep_1 5 rfl) (lv_at hl 0 rfl) ?_
          refine lv_goto (tgt := 83) G.hx G.hb (dcs_get dec_X8_keep_1 6 rfl) (by decide) ?_
          exact B_X8_keep_83 l2 z12 l3 v4 σ7 G hm ok_z12 hf  w (lv_sub hl [3] rfl)
      · rw [if_neg hc] at hf
        refine lv_aload_n G.hx G.hb (dcs_get dec_X8_keep_0 31 rfl) rfl (lv_at hl 1 rfl) ?_
        refine lv_aload_n G.hx G.hb (dcs_get dec_X8_keep_0 32 rfl) rfl (lv_at hl 2 rfl) ?_
        refine lv_iload_n G.hx G.hb (dcs_get dec_X8_keep_0 33 rfl) rfl (lv_at hl 3 rfl) ?_
        refine lv_iload_n G.hx G.hb (dcs_get dec_X8_keep_0 34 rfl) rfl (lv_at hl 4 rfl) ?_
        obtain ⟨v16, σ17, h15, hf⟩ := cC_some hf
        refine a_i (k_V (As := [.ref (ad a1), .int l2, .int l3]) (rest := []) cls8 lb_X8_keepDigits lv_X8_keepDigits q_525 (C_X8_keepDigits G.2.2.1 a0 a1 l2 l3 σ7 h15 ok_a0 ok_a1) ⟨(Nat.le_of_ble_eq_true rfl), (Nat.le_of_ble_eq_true rfl)⟩ G w k_a0.1 k_a0.2 rfl rfl hl.1 (Nat.le_of_ble_eq_true rfl) (dcs_get dec_X8_keep_0 35 rfl) ⟨Nat.le_refl _, Nat.le_refl _⟩) G w (fun H locs w => ?_)
        have e9 := Option.some.inj hf
        exact r_iret G w hm (congrArg Prod.fst e9) (congrArg Prod.snd e9) (dcs_get dec_X8_keep_0 36 rfl)
    · rw [if_neg hc] at hf
      refine lv_aload_n G.hx G.hb (dcs_get dec_X8_keep_0 22 rfl) rfl (lv_at hl 1 rfl) ?_
      refine lv_aload_n G.hx G.hb (dcs_get dec_X8_keep_0 23 rfl) rfl (lv_at hl 2 rfl) ?_
      refine lv_iload_n G.hx G.hb (dcs_get dec_X8_keep_0 24 rfl) rfl (lv_at hl 3 rfl) ?_
      refine lv_iload_n G.hx G.hb (dcs_get dec_X8_keep_0 25 rfl) rfl (lv_at hl 4 rfl) ?_
      obtain ⟨v19, σ20, h18, hf⟩ := cC_some hf
      refine a_i (k_V (As := [.ref (ad a1), .int l2, .int l3]) (rest := []) cls8 lb_X8_keepLetters lv_X8_keepLetters q_473 (C_X8_keepLetters G.2.2.1 a0 a1 l2 l3 σ7 h18 ok_a0 ok_a1) ⟨(Nat.le_of_ble_eq_true rfl), (Nat.le_of_ble_eq_true rfl)⟩ G w k_a0.1 k_a0.2 rfl rfl hl.1 (Nat.le_of_ble_eq_true rfl) (dcs_get dec_X8_keep_0 26 rfl) ⟨Nat.le_refl _, Nat.le_refl _⟩) G w (fun H locs w => ?_)
      have e9 := Option.some.inj hf
      exact r_iret G w hm (congrArg Prod.fst e9) (congrArg Prod.snd e9) (dcs_get dec_X8_keep_0 27 rfl)
  · rw [if_pos hc] at hf
    refine lv_aload_n G.hx G.hb (dcs_get dec_X8_keep_0 12 rfl) rfl (lv_at hl 1 rfl) ?_
    obtain ⟨z21, e_z21, ok_z21, hf⟩ := cR_some hf
    have k_z21 := okr_in ok_z21
    refine r_getr (k := 0) cls8 fi_8_0.1 fi_8_0.2 q_184 G w k_a0.1 k_a0.2 e_z21 (dcs_get dec_X8_keep_0 13 rfl) ?_
    refine lv_iload_n G.hx G.hb (dcs_get dec_X8_keep_0 14 rfl) rfl (lv_at hl 4 rfl) ?_
    refine lv_iconst (v := (0 : Int32)) G.hx G.hb (dcs_get dec_X8_keep_0 15 rfl) (by decide) ?_
    obtain ⟨h22, hf⟩ := cG_some hf
    obtain ⟨σ23, e_σ23, hf⟩ := cL_some hf
    refine r_iast G w k_z21.1 k_z21.2 h22 (dcs_get dec_X8_keep_0 16 rfl) (fun H locs w => ?_)
    have w := Wd.nm e_σ23 w
    refine lv_iload_n G.hx G.hb (dcs_get dec_X8_keep_0 17 rfl) rfl (lv_at hl 3 rfl) ?_
    have e9 := Option.some.inj hf
    exact r_iret G w hm (congrArg Prod.fst e9) (congrArg Prod.snd e9) (dcs_get dec_X8_keep_0 18 rfl)
end
set_option maxRecDepth 100000 in
set_option maxHeartbeats 4000000 in
theorem C_X8_keep {l : Launch} {D : va_G} {ay : Nat → ClassId} {ad : Nat → Nat} (hi : hInj NC ad) (a0 : Nat) (a1 : Nat) (l2 : Int32) (l3 : Int32) (σ : hSt) {r0 : Int32} {σ0 : hSt} (hf : F_X8_keep a0 a1 l2 l3 σ = some (r0, σ0)) (ok_a0 : okr kC NC 8 a0 = true) (ok_a1 : okr kC NC 6 a1 = true) : hM l D ay kC NC ad yX8_keep cX8_keep 5 ((some .int)) (rmK 8 300) [.ref (ad a0), .ref (ad a1), .int l2, .int l3] σ (cI D ay kC NC ad r0 σ0) := by
  refine hM_in (by decide) hi (Nat.le_of_ble_eq_true rfl) ?_
  intro p e s m below meth c G hm w ls hl
  exact B_X8_keep_0 a0 a1 l2 l3 σ G hm ok_a0 ok_a1 hf w (lv_sub hl [0, 1, 2, 3] rfl)

/-! HillDrums.Tokens.split(LHillDrums$Tape;)V -/
def DL_X8_split_0 : List (Nat × Instr × Nat) := [(0, .iconst 0, 1), (1, .istore_n 2, 1), (2, .iconst 0, 1), (3, .istore_n 3, 1), (4, .iload_n 3, 1), (5, .sipush 401, 3), (8, .if_icmp .ge 30, 3), (11, .aload_n 1, 1), (12, .iload_n 2, 1), (13, .invokestatic 22, 3), (16, .istore_n 2, 1), (17, .aload_n 0, 1), (18, .getfield 15, 3), (21, .iload_n 3, 1), (22, .iload_n 2, 1), (23, .iastore, 1), (24, .aload_n 0, 1), (25, .aload_n 1, 1), (26, .iload_n 2, 1), (27, .iload_n 3, 1), (28, .invokevirtual 26, 3), (31, .istore_n 2, 1), (32, .iinc 3 1, 3), (35, .goto (-31), 3), (38, .return_, 1)]
set_option maxRecDepth 100000 in
theorem dec_X8_split_0 : dcs cX8_split DL_X8_split_0 = true := by decide +kernel
theorem lb_X8_split : lkB yX8_split cX8_split 4 (none) 1 := ⟨q_455, q_7, ⟨by decide, by decide⟩, by decide +kernel⟩
theorem lv_X8_split : lkV yX8_split := ⟨q_454, qs_7⟩
def F_X8_split_4b (a0 : Nat) (a1 : Nat) (l2 : Int32) (l3 : Int32) (σ : hSt) : Option ((Int32 × Int32 × hSt) ⊕ (hSt)) :=
if (401 : Int32) ≤ l3 then (
some (.inr (σ))) else (
(F_X8_pastBlanks a1 l2 σ).bind fun v2 =>
cR (σ.2.2 a0 1) (okr kC NC 101) fun z3 =>
cG (inb l3 (kC z3).2) <|
cL (uI σ z3 l3.toNatClampNeg v2) fun σ5 =>
cC (F_X8_keep a0 a1 v2 l3 σ5) fun v7 σ8 =>
cL (l3 + (1 : Int32)) fun v9 =>
some (.inl (v7, v9, σ8)))
def S_X8_split_4 (a0 : Nat) (a1 : Nat) (v : Int32 × Int32 × hSt) : Option ((Int32 × Int32 × hSt) ⊕ (hSt)) := F_X8_split_4b a0 a1 v.1 v.2.1 v.2.2
def F_X8_split_4 (a0 : Nat) (a1 : Nat) (l2 : Int32) (l3 : Int32) (σ : hSt) : Option (hSt) := lp (S_X8_split_4 a0 a1) fuel (l2, l3, σ)
def F_X8_split (a0 : Nat) (a1 : Nat) (σ : hSt) : Option (hSt) :=
F_X8_split_4 a0 a1 (0 : Int32) (0 : Int32) σ
section
variable {p : Program} {l : Launch} {e : Env} {s : State} {m : MethodId} {args : Array Value} {below : List Frame} {meth : Method} {c : Code} {D : va_G} {ay : Nat → ClassId} {ad : Nat → Nat}
set_option maxRecDepth 100000 in
set_option maxHeartbeats 4000000 in
theorem B_X8_split_4b {H : Heap} {locs : List Loc} {ls : Array Slot} {σ0 : hSt} {o : (Int32 × Int32 × hSt) ⊕ (hSt)} (a0 : Nat) (a1 : Nat) (l2 : Int32) (l3 : Int32) (σ : hSt) (G : Gx p m c cX8_split 4 s args RX8 D ay NC ad (aN NC ad)) (hm : meth.sig.returnType = none ∧ meth.locks = false) (ok_a0 : okr kC NC 8 a0 = true) (ok_a1 : okr kC NC 6 a1 = true) (hf : F_X8_split_4b a0 a1 l2 l3 σ = some o) (hb0 : ∀ (v : Int32 × Int32 × hSt), o = .inl v → ∀ (H : Heap) (locs : List Loc) (ls : Array Slot), Wd D ay kC NC ad (aN NC ad) s v.2.2 H locs → lv_has ls 4 [(0, .ref (ad a0)), (1, .ref (ad a1)), (2, .int v.1), (3, .int v.2.1)] → W p l e (rmK 9 324) s m args below meth c H locs 0 0 (MQ below (cV D ay kC NC ad σ0) args s 0 0 (aN NC ad)) (F0 m 4 ls [])) (hr : ∀ x, o = .inr (x) → x = σ0) (w : Wd D ay kC NC ad (aN NC ad) s σ H locs) (hl : lv_has ls 4 [(0, .ref (ad a0)), (1, .ref (ad a1)), (2, .int l2), (3, .int l3)]) : W p l e (rmK 9 324) s m args below meth c H locs 0 0 (MQ below (cV D ay kC NC ad σ0) args s 0 0 (aN NC ad)) (F0 m 4 ls []) := by
  have k_a0 := okr_in ok_a0
  have k_a1 := okr_in ok_a1
  unfold F_X8_split_4b at hf
  refine lv_iload_n G.hx G.hb (dcs_get dec_X8_split_0 4 rfl) rfl (lv_at hl 3 rfl) ?_
  refine lv_sipush (v := (401 : Int32)) G.hx G.hb (dcs_get dec_X8_split_0 5 rfl) (by decide) ?_
  refine lv_icmp_ge (tgt := 38) G.hx G.hb (dcs_get dec_X8_split_0 6 rfl) (by decide) (fun hc => ?_) (fun hc => ?_)
  · rw [if_pos hc] at hf
    have e9 := hr _ (Option.some.inj hf).symm
    exact r_vret G w hm e9 (dcs_get dec_X8_split_0 24 rfl)
  · rw [if_neg hc] at hf
    refine lv_aload_n G.hx G.hb (dcs_get dec_X8_split_0 7 rfl) rfl (lv_at hl 1 rfl) ?_
    refine lv_iload_n G.hx G.hb (dcs_get dec_X8_split_0 8 rfl) rfl (lv_at hl 2 rfl) ?_
    obtain ⟨v2, h1, hf⟩ := cB_some hf
    refine a_i (k_S (As := [.ref (ad a1), .int l2]) (rest := []) lb_X8_pastBlanks q_457 q_456 (C_X8_pastBlanks G.2.2.1 a1 l2 σ h1 ok_a1) ⟨(Nat.le_of_ble_eq_true rfl), (Nat.le_of_ble_eq_true rfl)⟩ G w rfl rfl hl.1 (Nat.le_of_ble_eq_true rfl) (dcs_get dec_X8_split_0 9 rfl) ⟨Nat.le_refl _, Nat.le_refl _⟩) G w (fun H locs w => ?_)
    refine lv_istore_n (lv' := [(2, .int v2), (0, .ref (ad a0)), (1, .ref (ad a1)), (3, .int l3)]) G.hx G.hb (dcs_get dec_X8_split_0 10 rfl) rfl hl (by decide) rfl (fun ls hl => ?_)
    refine lv_aload_n G.hx G.hb (dcs_get dec_X8_split_0 11 rfl) rfl (lv_at hl 1 rfl) ?_
    obtain ⟨z3, e_z3, ok_z3, hf⟩ := cR_some hf
    have k_z3 := okr_in ok_z3
    refine r_getr (k := 1) cls8 fi_8_1.1 fi_8_1.2 q_186 G w k_a0.1 k_a0.2 e_z3 (dcs_get dec_X8_split_0 12 rfl) ?_
    refine lv_iload_n G.hx G.hb (dcs_get dec_X8_split_0 13 rfl) rfl (lv_at hl 3 rfl) ?_
    refine lv_iload_n G.hx G.hb (dcs_get dec_X8_split_0 14 rfl) rfl (lv_at hl 0 rfl) ?_
    obtain ⟨h4, hf⟩ := cG_some hf
    obtain ⟨σ5, e_σ5, hf⟩ := cL_some hf
    refine r_iast G w k_z3.1 k_z3.2 h4 (dcs_get dec_X8_split_0 15 rfl) (fun H locs w => ?_)
    have w := Wd.nm e_σ5 w
    refine lv_aload_n G.hx G.hb (dcs_get dec_X8_split_0 16 rfl) rfl (lv_at hl 1 rfl) ?_
    refine lv_aload_n G.hx G.hb (dcs_get dec_X8_split_0 17 rfl) rfl (lv_at hl 2 rfl) ?_
    refine lv_iload_n G.hx G.hb (dcs_get dec_X8_split_0 18 rfl) rfl (lv_at hl 0 rfl) ?_
    refine lv_iload_n G.hx G.hb (dcs_get dec_X8_split_0 19 rfl) rfl (lv_at hl 3 rfl) ?_
    obtain ⟨v7, σ8, h6, hf⟩ := cC_some hf
    refine a_i (k_V (As := [.ref (ad a1), .int v2, .int l3]) (rest := []) cls8 lb_X8_keep lv_X8_keep q_466 (C_X8_keep G.2.2.1 a0 a1 v2 l3 σ5 h6 ok_a0 ok_a1) ⟨(Nat.le_of_ble_eq_true rfl), (Nat.le_of_ble_eq_true rfl)⟩ G w k_a0.1 k_a0.2 rfl rfl hl.1 (Nat.le_of_ble_eq_true rfl) (dcs_get dec_X8_split_0 20 rfl) ⟨Nat.le_refl _, Nat.le_refl _⟩) G w (fun H locs w => ?_)
    refine lv_istore_n (lv' := [(2, .int v7), (0, .ref (ad a0)), (1, .ref (ad a1)), (3, .int l3)]) G.hx G.hb (dcs_get dec_X8_split_0 21 rfl) rfl hl (by decide) rfl (fun ls hl => ?_)
    obtain ⟨v9, e_v9, hf⟩ := cL_some hf
    refine lv_iinc (v := v9) (lv' := [(3, .int v9), (2, .int v7), (0, .ref (ad a0)), (1, .ref (ad a1))]) G.hx G.hb (dcs_get dec_X8_split_0 22 rfl) hl (k := 3) rfl (by rw [e_v9]; rfl) (by decide) rfl (fun ls hl => ?_)
    refine lv_goto (tgt := 4) G.hx G.hb (dcs_get dec_X8_split_0 23 rfl) (by decide) ?_
    exact hb0 _ (Option.some.inj hf).symm _ _ _ w (lv_sub hl [2, 3, 1, 0] rfl)
set_option maxRecDepth 100000 in
set_option maxHeartbeats 4000000 in
theorem H_X8_split_4 {σ0 : hSt} (a0 : Nat) (a1 : Nat) (G : Gx p m c cX8_split 4 s args RX8 D ay NC ad (aN NC ad)) (hm : meth.sig.returnType = none ∧ meth.locks = false) (ok_a0 : okr kC NC 8 a0 = true) (ok_a1 : okr kC NC 6 a1 = true)  : ∀ (k : Nat) (v : Int32 × Int32 × hSt), lp (S_X8_split_4 a0 a1) k v = some σ0 → ∀ (H : Heap) (locs : List Loc) (ls : Array Slot), Wd D ay kC NC ad (aN NC ad) s v.2.2 H locs → lv_has ls 4 [(0, .ref (ad a0)), (1, .ref (ad a1)), (2, .int v.1), (3, .int v.2.1)] → W p l e (rmK 9 324) s m args below meth c H locs 0 0 (MQ below (cV D ay kC NC ad σ0) args s 0 0 (aN NC ad)) (F0 m 4 ls []) := by
  intro k
  induction k with
  | zero => intro v hf; cases hf
  | succ k ih =>
    intro v hf H locs ls w hl
    obtain ⟨o1, h1, h2, h3⟩ := lp_some hf
    exact B_X8_split_4b a0 a1 v.1 v.2.1 v.2.2 G hm ok_a0 ok_a1 h1  (fun v' e => ih v' (h2 v' e)) (fun x e => h3 x e) w hl
set_option maxRecDepth 100000 in
set_option maxHeartbeats 4000000 in
theorem B_X8_split_4 {H : Heap} {locs : List Loc} {ls : Array Slot} {σ0 : hSt} (a0 : Nat) (a1 : Nat) (l2 : Int32) (l3 : Int32) (σ : hSt) (G : Gx p m c cX8_split 4 s args RX8 D ay NC ad (aN NC ad)) (hm : meth.sig.returnType = none ∧ meth.locks = false) (ok_a0 : okr kC NC 8 a0 = true) (ok_a1 : okr kC NC 6 a1 = true) (hf : F_X8_split_4 a0 a1 l2 l3 σ = some σ0)  (w : Wd D ay kC NC ad (aN NC ad) s σ H locs) (hl : lv_has ls 4 [(0, .ref (ad a0)), (1, .ref (ad a1)), (2, .int l2), (3, .int l3)]) : W p l e (rmK 9 324) s m args below meth c H locs 0 0 (MQ below (cV D ay kC NC ad σ0) args s 0 0 (aN NC ad)) (F0 m 4 ls []) := by
  unfold F_X8_split_4 at hf
  exact H_X8_split_4 a0 a1  G hm ok_a0 ok_a1  fuel (l2, l3, σ) hf _ _ _ w hl
set_option maxRecDepth 100000 in
set_option maxHeartbeats 4000000 in
theorem B_X8_split_0 {H : Heap} {locs : List Loc} {ls : Array Slot} {σ0 : hSt} (a0 : Nat) (a1 : Nat) (σ : hSt) (G : Gx p m c cX8_split 4 s args RX8 D ay NC ad (aN NC ad)) (hm : meth.sig.returnType = none ∧ meth.locks = false) (ok_a0 : okr kC NC 8 a0 = true) (ok_a1 : okr kC NC 6 a1 = true) (hf : F_X8_split a0 a1 σ = some σ0)  (w : Wd D ay kC NC ad (aN NC ad) s σ H locs) (hl : lv_has ls 4 [(0, .ref (ad a0)), (1, .ref (ad a1))]) : W p l e (rmK 9 324) s m args below meth c H locs 0 0 (MQ below (cV D ay kC NC ad σ0) args s 0 0 (aN NC ad)) (F0 m 0 ls []) := by
  have k_a0 := okr_in ok_a0
  have k_a1 := okr_in ok_a1
  unfold F_X8_split at hf
  refine lv_iconst (v := (0 : Int32)) G.hx G.hb (dcs_get dec_X8_split_0 0 rfl) (by decide) ?_
  refine lv_istore_n (lv' := [(2, .int (0 : Int32)), (0, .ref (ad a0)), (1, .ref (ad a1))]) G.hx G.hb (dcs_get dec_X8_split_0 1 rfl) rfl hl (by decide) rfl (fun ls hl => ?_)
  refine lv_iconst (v := (0 : Int32)) G.hx G.hb (dcs_get dec_X8_split_0 2 rfl) (by decide) ?_
  refine lv_istore_n (lv' := [(3, .int (0 : Int32)), (2, .int (0 : Int32)), (0, .ref (ad a0)), (1, .ref (ad a1))]) G.hx G.hb (dcs_get dec_X8_split_0 3 rfl) rfl hl (by decide) rfl (fun ls hl => ?_)
  exact B_X8_split_4 a0 a1 (0 : Int32) (0 : Int32) σ G hm ok_a0 ok_a1 hf  w (lv_sub hl [2, 3, 1, 0] rfl)
end
set_option maxRecDepth 100000 in
set_option maxHeartbeats 4000000 in
theorem C_X8_split {l : Launch} {D : va_G} {ay : Nat → ClassId} {ad : Nat → Nat} (hi : hInj NC ad) (a0 : Nat) (a1 : Nat) (σ : hSt) {σ0 : hSt} (hf : F_X8_split a0 a1 σ = some σ0) (ok_a0 : okr kC NC 8 a0 = true) (ok_a1 : okr kC NC 6 a1 = true) : hM l D ay kC NC ad yX8_split cX8_split 4 (none) (rmK 9 324) [.ref (ad a0), .ref (ad a1)] σ (cV D ay kC NC ad σ0) := by
  refine hM_in (by decide) hi (Nat.le_of_ble_eq_true rfl) ?_
  intro p e s m below meth c G hm w ls hl
  exact B_X8_split_0 a0 a1 σ G hm ok_a0 ok_a1 hf w (lv_sub hl [0, 1] rfl)
