/-! HillDrums.Law.<init> -/
def DL_X0_init_0 : List (Nat × Instr × Nat) := [(0, .aload_n 0, 1), (1, .invokespecial 3, 3), (4, .aload_n 0, 1), (5, .sipush 401, 3), (8, .newarray .int, 2), (10, .putfield 9, 3), (13, .aload_n 0, 1), (14, .bipush 32, 2), (16, .newarray .int, 2), (18, .putfield 15, 3), (21, .aload_n 0, 1), (22, .iconst 0, 1), (23, .putfield 18, 3), (26, .aload_n 0, 1), (27, .iconst 0, 1), (28, .putfield 22, 3), (31, .return_, 1)]
set_option maxRecDepth 100000 in
theorem dec_X0_init_0 : dcs cX0_init DL_X0_init_0 = true := by decide +kernel
theorem lb_X0_init : lkB yX0_init cX0_init 1 (none) 0 := ⟨q_57, q_4, ⟨by decide, by decide⟩, by decide +kernel⟩
set_option maxRecDepth 100000 in
def F_X0_init (a0 : Nat) (n : Nat) (σ : hSt) : Option (Nat × hSt) :=
cG (kC n == (101, 401)) <|
cL (zO σ n) fun σ2 =>
cL (n + 1) fun n3 =>
cL (uP σ2 a0 0 (some n)) fun σ5 =>
cG (kC n3 == (101, 32)) <|
cL (zO σ5 n3) fun σ7 =>
cL (n3 + 1) fun n8 =>
cL (uP σ7 a0 1 (some n3)) fun σ10 =>
cL (uI σ10 a0 2 (0 : Int32)) fun σ11 =>
cL (uI σ11 a0 3 (0 : Int32)) fun σ12 =>
some (n8, σ12)
section
variable {p : Program} {l : Launch} {e : Env} {s : State} {m : MethodId} {args : Array Value} {below : List Frame} {meth : Method} {c : Code} {D : va_G} {ay : Nat → ClassId} {ad : Nat → Nat}
set_option maxRecDepth 100000 in
set_option maxHeartbeats 16000000 in
theorem B_X0_init {n0 : Nat} {ad0 : Nat → Nat} {sz n' : Nat} {σ' : hSt} {H : Heap} {locs : List Loc} {ls : Array Slot} (a0 : Nat) (n : Nat) (σ : hSt) (hsz : s.heap.size = sz) (G : Gy p m c cX0_init 1 s args RX0 D ay (aZ n0 ad0 sz)) (hm : meth.sig.returnType = none ∧ meth.locks = false ∧ meth.name = "<init>") (hf : F_X0_init a0 n σ = some (n', σ')) (k_a0 : a0 < n ∧ (kC a0).1 = 0) (w : Wa D ay kC n0 ad0 true n ad (aZ n0 ad0 sz) s σ H locs) (hl : lv_has ls 1 [(0, .ref (ad a0))]) : W p l e (rmA 1 20 2 433) s m args below meth c H locs 0 0 (MQ below (cA D ay kC n0 ad0 sz true n' σ') args s 2 433 (aZ n0 ad0 sz)) (F0 m 0 ls []) := by
  unfold F_X0_init at hf
  refine lv_aload_n G.1.1 G.1.2.1 (dcs_get dec_X0_init_0 0 rfl) rfl (lv_at hl 0 rfl) ?_
  refine r_objI q_58 q_29 q_30 ⟨Nat.le_of_ble_eq_true rfl, Nat.le_of_ble_eq_true rfl⟩ G hl.1 (dcs_get dec_X0_init_0 1 rfl) ?_
  refine lv_aload_n G.1.1 G.1.2.1 (dcs_get dec_X0_init_0 2 rfl) rfl (lv_at hl 0 rfl) ?_
  refine lv_sipush (v := (401 : Int32)) G.1.1 G.1.2.1 (dcs_get dec_X0_init_0 3 rfl) (by decide) ?_
  obtain ⟨h1, hf⟩ := cG_some hf
  obtain ⟨σ2, e_σ2, hf⟩ := cL_some hf
  obtain ⟨n3, e_n3, hf⟩ := cL_some hf
  refine r_newI (N := 401) (t0 := 1) (ty := .int) ⟨by decide, by decide⟩ (by simp) rfl q_73 (Nat.le_of_ble_eq_true rfl) G w h1 ⟨Nat.le_of_ble_eq_true rfl, Nat.le_of_ble_eq_true rfl⟩ (dcs_get dec_X0_init_0 4 rfl) (fun H ad1 e4 w => ?_)
  rw [← e4 a0 k_a0.1] at hl
  rw [← e4 a0 k_a0.1]
  have k_a0 := And.intro (Nat.lt_of_lt_of_le k_a0.1 (by omega : n ≤ n3)) k_a0.2
  have k_n : n < n3 ∧ (kC n).1 = 101 := ⟨by omega, by rw [eq_of_beq h1]⟩
  have w := Wa_nm e_n3 e_σ2 w
  generalize ad1 = ad at hl w ⊢
  clear e4
  obtain ⟨σ5, e_σ5, hf⟩ := cL_some hf
  refine r_putrF (k := 0) cls0 ctf0 fi_0_0.1 fi_0_0.2 rfl rfl (ctf0.1 0 fi_0_0.1) q_59 (fun _ => rfl) (fun _ => rfl) hm.2.2 (G.gx w) w.1 k_a0.1 k_a0.2 (dcs_get dec_X0_init_0 5 rfl) (fun H locs w1 => ?_)
  have w := Wa_uP e_σ5 k_n.1 w w1
  refine lv_aload_n G.1.1 G.1.2.1 (dcs_get dec_X0_init_0 6 rfl) rfl (lv_at hl 0 rfl) ?_
  refine lv_bipush (v := (32 : Int32)) G.1.1 G.1.2.1 (dcs_get dec_X0_init_0 7 rfl) (by decide) ?_
  obtain ⟨h6, hf⟩ := cG_some hf
  obtain ⟨σ7, e_σ7, hf⟩ := cL_some hf
  obtain ⟨n8, e_n8, hf⟩ := cL_some hf
  refine r_newI (N := 32) (t0 := 1) (ty := .int) ⟨by decide, by decide⟩ (by simp) rfl q_73 (Nat.le_of_ble_eq_true rfl) G w h6 ⟨Nat.le_of_ble_eq_true rfl, Nat.le_of_ble_eq_true rfl⟩ (dcs_get dec_X0_init_0 8 rfl) (fun H ad1 e9 w => ?_)
  rw [← e9 a0 k_a0.1] at hl
  rw [← e9 a0 k_a0.1]
  have k_a0 := And.intro (Nat.lt_of_lt_of_le k_a0.1 (by omega : n3 ≤ n8)) k_a0.2
  have k_n3 : n3 < n8 ∧ (kC n3).1 = 101 := ⟨by omega, by rw [eq_of_beq h6]⟩
  have w := Wa_nm e_n8 e_σ7 w
  generalize ad1 = ad at hl w ⊢
  clear e9
  obtain ⟨σ10, e_σ10, hf⟩ := cL_some hf
  refine r_putrF (k := 1) cls0 ctf0 fi_0_1.1 fi_0_1.2 rfl rfl (ctf0.1 1 fi_0_1.1) q_60 (fun _ => rfl) (fun _ => rfl) hm.2.2 (G.gx w) w.1 k_a0.1 k_a0.2 (dcs_get dec_X0_init_0 9 rfl) (fun H locs w1 => ?_)
  have w := Wa_uP e_σ10 k_n3.1 w w1
  refine lv_aload_n G.1.1 G.1.2.1 (dcs_get dec_X0_init_0 10 rfl) rfl (lv_at hl 0 rfl) ?_
  refine lv_iconst (v := (0 : Int32)) G.1.1 G.1.2.1 (dcs_get dec_X0_init_0 11 rfl) (by decide) ?_
  obtain ⟨σ11, e_σ11, hf⟩ := cL_some hf
  refine r_puti (k := 2) cls0 ct0 fi_0_2.1 fi_0_2.2 fp_0_2.1 fp_0_2.2 q_61 rfl rfl (G.gx w) w.1 k_a0.1 k_a0.2 (dcs_get dec_X0_init_0 12 rfl) (fun H locs w1 => ?_)
  have w := Wa_uI e_σ11 w w1
  refine lv_aload_n G.1.1 G.1.2.1 (dcs_get dec_X0_init_0 13 rfl) rfl (lv_at hl 0 rfl) ?_
  refine lv_iconst (v := (0 : Int32)) G.1.1 G.1.2.1 (dcs_get dec_X0_init_0 14 rfl) (by decide) ?_
  obtain ⟨σ12, e_σ12, hf⟩ := cL_some hf
  refine r_puti (k := 3) cls0 ct0 fi_0_3.1 fi_0_3.2 fp_0_3.1 fp_0_3.2 q_63 rfl rfl (G.gx w) w.1 k_a0.1 k_a0.2 (dcs_get dec_X0_init_0 15 rfl) (fun H locs w1 => ?_)
  have w := Wa_uI e_σ12 w w1
  have e9 := Option.some.inj hf
  refine W.widen (k := 2) (n := 433) (Nat.le_of_ble_eq_true rfl) (Nat.le_of_ble_eq_true rfl) ?_
  exact r_vretA hsz G w hm (fun h => rfl) (congrArg Prod.fst e9) (congrArg Prod.snd e9) (dcs_get dec_X0_init_0 16 rfl)
end
set_option maxRecDepth 100000 in
set_option maxHeartbeats 16000000 in
theorem C_X0_init {l : Launch} {D : va_G} {ay : Nat → ClassId} {ad : Nat → Nat} {n n' sz : Nat} {σ σ' : hSt} (hi : hInj n ad) (hR : RO n σ) (a0 : Nat) (hf : F_X0_init a0 n σ = some (n', σ')) (k_a0 : a0 < n ∧ (kC a0).1 = 0) : hMA l D ay kC n ad sz yX0_init cX0_init 1 (rmA 1 20 2 433) [.ref (ad a0)] σ true n' σ' 2 433 := by
  refine hMA_in (by decide) rfl hi hR (Nat.le_of_ble_eq_true rfl) ?_
  intro p e s m below meth c hsz G hm w ls hl
  exact B_X0_init a0 n σ hsz G hm hf k_a0 w hl

/-! HillDrums.Row.<init> -/
def DL_X5_init_0 : List (Nat × Instr × Nat) := [(0, .aload_n 0, 1), (1, .invokespecial 3, 3), (4, .aload_n 0, 1), (5, .bipush 12, 2), (7, .newarray .int, 2), (9, .putfield 9, 3), (12, .aload_n 0, 1), (13, .iconst 0, 1), (14, .putfield 15, 3), (17, .return_, 1)]
set_option maxRecDepth 100000 in
theorem dec_X5_init_0 : dcs cX5_init DL_X5_init_0 = true := by decide +kernel
theorem lb_X5_init : lkB yX5_init cX5_init 1 (none) 0 := ⟨q_78, q_5, ⟨by decide, by decide⟩, by decide +kernel⟩
set_option maxRecDepth 100000 in
def F_X5_init (a0 : Nat) (n : Nat) (σ : hSt) : Option (Nat × hSt) :=
cG (kC n == (101, 12)) <|
cL (zO σ n) fun σ2 =>
cL (n + 1) fun n3 =>
cL (uP σ2 a0 0 (some n)) fun σ5 =>
cL (uI σ5 a0 1 (0 : Int32)) fun σ6 =>
some (n3, σ6)
section
variable {p : Program} {l : Launch} {e : Env} {s : State} {m : MethodId} {args : Array Value} {below : List Frame} {meth : Method} {c : Code} {D : va_G} {ay : Nat → ClassId} {ad : Nat → Nat}
set_option maxRecDepth 100000 in
set_option maxHeartbeats 16000000 in
theorem B_X5_init {n0 : Nat} {ad0 : Nat → Nat} {sz n' : Nat} {σ' : hSt} {H : Heap} {locs : List Loc} {ls : Array Slot} (a0 : Nat) (n : Nat) (σ : hSt) (hsz : s.heap.size = sz) (G : Gy p m c cX5_init 1 s args RX5 D ay (aZ n0 ad0 sz)) (hm : meth.sig.returnType = none ∧ meth.locks = false ∧ meth.name = "<init>") (hf : F_X5_init a0 n σ = some (n', σ')) (k_a0 : a0 < n ∧ (kC a0).1 = 5) (w : Wa D ay kC n0 ad0 true n ad (aZ n0 ad0 sz) s σ H locs) (hl : lv_has ls 1 [(0, .ref (ad a0))]) : W p l e (rmA 1 20 1 12) s m args below meth c H locs 0 0 (MQ below (cA D ay kC n0 ad0 sz true n' σ') args s 1 12 (aZ n0 ad0 sz)) (F0 m 0 ls []) := by
  unfold F_X5_init at hf
  refine lv_aload_n G.1.1 G.1.2.1 (dcs_get dec_X5_init_0 0 rfl) rfl (lv_at hl 0 rfl) ?_
  refine r_objI q_79 q_29 q_30 ⟨Nat.le_of_ble_eq_true rfl, Nat.le_of_ble_eq_true rfl⟩ G hl.1 (dcs_get dec_X5_init_0 1 rfl) ?_
  refine lv_aload_n G.1.1 G.1.2.1 (dcs_get dec_X5_init_0 2 rfl) rfl (lv_at hl 0 rfl) ?_
  refine lv_bipush (v := (12 : Int32)) G.1.1 G.1.2.1 (dcs_get dec_X5_init_0 3 rfl) (by decide) ?_
  obtain ⟨h1, hf⟩ := cG_some hf
  obtain ⟨σ2, e_σ2, hf⟩ := cL_some hf
  obtain ⟨n3, e_n3, hf⟩ := cL_some hf
  refine r_newI (N := 12) (t0 := 1) (ty := .int) ⟨by decide, by decide⟩ (by simp) rfl q_73 (Nat.le_of_ble_eq_true rfl) G w h1 ⟨Nat.le_of_ble_eq_true rfl, Nat.le_of_ble_eq_true rfl⟩ (dcs_get dec_X5_init_0 4 rfl) (fun H ad1 e4 w => ?_)
  rw [← e4 a0 k_a0.1] at hl
  rw [← e4 a0 k_a0.1]
  have k_a0 := And.intro (Nat.lt_of_lt_of_le k_a0.1 (by omega : n ≤ n3)) k_a0.2
  have k_n : n < n3 ∧ (kC n).1 = 101 := ⟨by omega, by rw [eq_of_beq h1]⟩
  have w := Wa_nm e_n3 e_σ2 w
  generalize ad1 = ad at hl w ⊢
  clear e4
  obtain ⟨σ5, e_σ5, hf⟩ := cL_some hf
  refine r_putrF (k := 0) cls5 ctf5 fi_5_0.1 fi_5_0.2 rfl rfl (ctf5.1 0 fi_5_0.1) q_80 (fun _ => rfl) (fun _ => rfl) hm.2.2 (G.gx w) w.1 k_a0.1 k_a0.2 (dcs_get dec_X5_init_0 5 rfl) (fun H locs w1 => ?_)
  have w := Wa_uP e_σ5 k_n.1 w w1
  refine lv_aload_n G.1.1 G.1.2.1 (dcs_get dec_X5_init_0 6 rfl) rfl (lv_at hl 0 rfl) ?_
  refine lv_iconst (v := (0 : Int32)) G.1.1 G.1.2.1 (dcs_get dec_X5_init_0 7 rfl) (by decide) ?_
  obtain ⟨σ6, e_σ6, hf⟩ := cL_some hf
  refine r_puti (k := 1) cls5 ct5 fi_5_1.1 fi_5_1.2 fp_5_1.1 fp_5_1.2 q_82 rfl rfl (G.gx w) w.1 k_a0.1 k_a0.2 (dcs_get dec_X5_init_0 8 rfl) (fun H locs w1 => ?_)
  have w := Wa_uI e_σ6 w w1
  have e9 := Option.some.inj hf
  refine W.widen (k := 1) (n := 12) (Nat.le_of_ble_eq_true rfl) (Nat.le_of_ble_eq_true rfl) ?_
  exact r_vretA hsz G w hm (fun h => rfl) (congrArg Prod.fst e9) (congrArg Prod.snd e9) (dcs_get dec_X5_init_0 9 rfl)
end
set_option maxRecDepth 100000 in
set_option maxHeartbeats 16000000 in
theorem C_X5_init {l : Launch} {D : va_G} {ay : Nat → ClassId} {ad : Nat → Nat} {n n' sz : Nat} {σ σ' : hSt} (hi : hInj n ad) (hR : RO n σ) (a0 : Nat) (hf : F_X5_init a0 n σ = some (n', σ')) (k_a0 : a0 < n ∧ (kC a0).1 = 5) : hMA l D ay kC n ad sz yX5_init cX5_init 1 (rmA 1 20 1 12) [.ref (ad a0)] σ true n' σ' 1 12 := by
  refine hMA_in (by decide) rfl hi hR (Nat.le_of_ble_eq_true rfl) ?_
  intro p e s m below meth c hsz G hm w ls hl
  exact B_X5_init a0 n σ hsz G hm hf k_a0 w hl

/-! HillDrums.Tape.<init> -/
def DL_X6_init_0 : List (Nat × Instr × Nat) := [(0, .aload_n 0, 1), (1, .invokespecial 3, 3), (4, .aload_n 0, 1), (5, .sipush 2000, 3), (8, .newarray .byte, 2), (10, .putfield 9, 3), (13, .aload_n 0, 1), (14, .iconst 0, 1), (15, .putfield 15, 3), (18, .return_, 1)]
set_option maxRecDepth 100000 in
theorem dec_X6_init_0 : dcs cX6_init DL_X6_init_0 = true := by decide +kernel
theorem lb_X6_init : lkB yX6_init cX6_init 1 (none) 0 := ⟨q_35, q_2, ⟨by decide, by decide⟩, by decide +kernel⟩
set_option maxRecDepth 100000 in
def F_X6_init (a0 : Nat) (n : Nat) (σ : hSt) : Option (Nat × hSt) :=
cG (kC n == (100, 2000)) <|
cL (zO σ n) fun σ2 =>
cL (n + 1) fun n3 =>
cL (uP σ2 a0 0 (some n)) fun σ5 =>
cL (uI σ5 a0 1 (0 : Int32)) fun σ6 =>
some (n3, σ6)
section
variable {p : Program} {l : Launch} {e : Env} {s : State} {m : MethodId} {args : Array Value} {below : List Frame} {meth : Method} {c : Code} {D : va_G} {ay : Nat → ClassId} {ad : Nat → Nat}
set_option maxRecDepth 100000 in
set_option maxHeartbeats 16000000 in
theorem B_X6_init {n0 : Nat} {ad0 : Nat → Nat} {sz n' : Nat} {σ' : hSt} {H : Heap} {locs : List Loc} {ls : Array Slot} (a0 : Nat) (n : Nat) (σ : hSt) (hsz : s.heap.size = sz) (G : Gy p m c cX6_init 1 s args RX6 D ay (aZ n0 ad0 sz)) (hm : meth.sig.returnType = none ∧ meth.locks = false ∧ meth.name = "<init>") (hf : F_X6_init a0 n σ = some (n', σ')) (k_a0 : a0 < n ∧ (kC a0).1 = 6) (w : Wa D ay kC n0 ad0 true n ad (aZ n0 ad0 sz) s σ H locs) (hl : lv_has ls 1 [(0, .ref (ad a0))]) : W p l e (rmA 1 20 1 2000) s m args below meth c H locs 0 0 (MQ below (cA D ay kC n0 ad0 sz true n' σ') args s 1 2000 (aZ n0 ad0 sz)) (F0 m 0 ls []) := by
  unfold F_X6_init at hf
  refine lv_aload_n G.1.1 G.1.2.1 (dcs_get dec_X6_init_0 0 rfl) rfl (lv_at hl 0 rfl) ?_
  refine r_objI q_36 q_29 q_30 ⟨Nat.le_of_ble_eq_true rfl, Nat.le_of_ble_eq_true rfl⟩ G hl.1 (dcs_get dec_X6_init_0 1 rfl) ?_
  refine lv_aload_n G.1.1 G.1.2.1 (dcs_get dec_X6_init_0 2 rfl) rfl (lv_at hl 0 rfl) ?_
  refine lv_sipush (v := (2000 : Int32)) G.1.1 G.1.2.1 (dcs_get dec_X6_init_0 3 rfl) (by decide) ?_
  obtain ⟨h1, hf⟩ := cG_some hf
  obtain ⟨σ2, e_σ2, hf⟩ := cL_some hf
  obtain ⟨n3, e_n3, hf⟩ := cL_some hf
  refine r_newI (N := 2000) (t0 := 0) (ty := .byte) ⟨by decide, by decide⟩ (by simp) rfl q_46 (Nat.le_of_ble_eq_true rfl) G w h1 ⟨Nat.le_of_ble_eq_true rfl, Nat.le_of_ble_eq_true rfl⟩ (dcs_get dec_X6_init_0 4 rfl) (fun H ad1 e4 w => ?_)
  rw [← e4 a0 k_a0.1] at hl
  rw [← e4 a0 k_a0.1]
  have k_a0 := And.intro (Nat.lt_of_lt_of_le k_a0.1 (by omega : n ≤ n3)) k_a0.2
  have k_n : n < n3 ∧ (kC n).1 = 100 := ⟨by omega, by rw [eq_of_beq h1]⟩
  have w := Wa_nm e_n3 e_σ2 w
  generalize ad1 = ad at hl w ⊢
  clear e4
  obtain ⟨σ5, e_σ5, hf⟩ := cL_some hf
  refine r_putrF (k := 0) cls6 ctf6 fi_6_0.1 fi_6_0.2 rfl rfl (ctf6.1 0 fi_6_0.1) q_37 (fun _ => rfl) (fun _ => rfl) hm.2.2 (G.gx w) w.1 k_a0.1 k_a0.2 (dcs_get dec_X6_init_0 5 rfl) (fun H locs w1 => ?_)
  have w := Wa_uP e_σ5 k_n.1 w w1
  refine lv_aload_n G.1.1 G.1.2.1 (dcs_get dec_X6_init_0 6 rfl) rfl (lv_at hl 0 rfl) ?_
  refine lv_iconst (v := (0 : Int32)) G.1.1 G.1.2.1 (dcs_get dec_X6_init_0 7 rfl) (by decide) ?_
  obtain ⟨σ6, e_σ6, hf⟩ := cL_some hf
  refine r_puti (k := 1) cls6 ct6 fi_6_1.1 fi_6_1.2 fp_6_1.1 fp_6_1.2 q_38 rfl rfl (G.gx w) w.1 k_a0.1 k_a0.2 (dcs_get dec_X6_init_0 8 rfl) (fun H locs w1 => ?_)
  have w := Wa_uI e_σ6 w w1
  have e9 := Option.some.inj hf
  refine W.widen (k := 1) (n := 2000) (Nat.le_of_ble_eq_true rfl) (Nat.le_of_ble_eq_true rfl) ?_
  exact r_vretA hsz G w hm (fun h => rfl) (congrArg Prod.fst e9) (congrArg Prod.snd e9) (dcs_get dec_X6_init_0 9 rfl)
end
set_option maxRecDepth 100000 in
set_option maxHeartbeats 16000000 in
theorem C_X6_init {l : Launch} {D : va_G} {ay : Nat → ClassId} {ad : Nat → Nat} {n n' sz : Nat} {σ σ' : hSt} (hi : hInj n ad) (hR : RO n σ) (a0 : Nat) (hf : F_X6_init a0 n σ = some (n', σ')) (k_a0 : a0 < n ∧ (kC a0).1 = 6) : hMA l D ay kC n ad sz yX6_init cX6_init 1 (rmA 1 20 1 2000) [.ref (ad a0)] σ true n' σ' 1 2000 := by
  refine hMA_in (by decide) rfl hi hR (Nat.le_of_ble_eq_true rfl) ?_
  intro p e s m below meth c hsz G hm w ls hl
  exact B_X6_init a0 n σ hsz G hm hf k_a0 w hl

/-! HillDrums.Text.<init> -/
def DL_X7_init_0 : List (Nat × Instr × Nat) := [(0, .aload_n 0, 1), (1, .invokespecial 3, 3), (4, .aload_n 0, 1), (5, .iconst 0, 1), (6, .putfield 9, 3), (9, .aload_n 0, 1), (10, .bipush 6, 2), (12, .newarray .int, 2), (14, .putfield 15, 3), (17, .aload_n 0, 1), (18, .bipush 6, 2), (20, .newarray .int, 2), (22, .putfield 19, 3), (25, .aload_n 0, 1), (26, .iconst 0, 1), (27, .putfield 22, 3), (30, .aload_n 0, 1), (31, .iconst 4, 1), (32, .newarray .int, 2), (34, .putfield 25, 3), (37, .aload_n 0, 1), (38, .new 28, 3), (41, .dup, 1), (42, .invokespecial 30, 3), (45, .putfield 31, 3), (48, .aload_n 0, 1), (49, .new 35, 3), (52, .dup, 1), (53, .invokespecial 37, 3), (56, .putfield 38, 3), (59, .aload_n 0, 1), (60, .new 35, 3), (63, .dup, 1), (64, .invokespecial 37, 3), (67, .putfield 42, 3), (70, .aload_n 0, 1), (71, .iconst 1, 1), (72, .putfield 45, 3), (75, .aload_n 0, 1), (76, .iconst 0, 1)]
set_option maxRecDepth 100000 in
theorem dec_X7_init_0 : dcs cX7_init DL_X7_init_0 = true := by decide +kernel
def DL_X7_init_1 : List (Nat × Instr × Nat) := [(77, .putfield 48, 3), (80, .aload_n 0, 1), (81, .iconst 4, 1), (82, .newarray .int, 2), (84, .putfield 51, 3), (87, .aload_n 0, 1), (88, .iconst 4, 1), (89, .newarray .int, 2), (91, .putfield 54, 3), (94, .aload_n 0, 1), (95, .iconst 4, 1), (96, .newarray .int, 2), (98, .putfield 57, 3), (101, .aload_n 0, 1), (102, .bipush 6, 2), (104, .newarray .int, 2), (106, .putfield 60, 3), (109, .aload_n 0, 1), (110, .sipush 256, 3), (113, .newarray .long, 2), (115, .putfield 63, 3), (118, .aload_n 0, 1), (119, .sipush 256, 3), (122, .newarray .int, 2), (124, .putfield 67, 3), (127, .return_, 1)]
set_option maxRecDepth 100000 in
theorem dec_X7_init_1 : dcs cX7_init DL_X7_init_1 = true := by decide +kernel
theorem lb_X7_init : lkB yX7_init cX7_init 1 (none) 0 := ⟨q_51, q_3, ⟨by decide, by decide⟩, by decide +kernel⟩
set_option maxRecDepth 100000 in
def F_X7_init (a0 : Nat) (n : Nat) (σ : hSt) : Option (Nat × hSt) :=
cL (uI σ a0 0 (0 : Int32)) fun σ1 =>
cG (kC n == (101, 6)) <|
cL (zO σ1 n) fun σ3 =>
cL (n + 1) fun n4 =>
cL (uP σ3 a0 1 (some n)) fun σ6 =>
cG (kC n4 == (101, 6)) <|
cL (zO σ6 n4) fun σ8 =>
cL (n4 + 1) fun n9 =>
cL (uP σ8 a0 2 (some n4)) fun σ11 =>
cL (uI σ11 a0 3 (0 : Int32)) fun σ12 =>
cG (kC n9 == (101, 4)) <|
cL (zO σ12 n9) fun σ14 =>
cL (n9 + 1) fun n15 =>
cL (uP σ14 a0 4 (some n9)) fun σ17 =>
cG (kC n15 == (0, 0)) <|
cL (zO σ17 n15) fun σ19 =>
cL (n15 + 1) fun n20 =>
cC (F_X0_init n15 n20 σ19) fun n24 σ23 =>
cL (uP σ23 a0 5 (some n15)) fun σ26 =>
cG (kC n24 == (5, 0)) <|
cL (zO σ26 n24) fun σ28 =>
cL (n24 + 1) fun n29 =>
cC (F_X5_init n24 n29 σ28) fun n33 σ32 =>
cL (uP σ32 a0 6 (some n24)) fun σ35 =>
cG (kC n33 == (5, 0)) <|
cL (zO σ35 n33) fun σ37 =>
cL (n33 + 1) fun n38 =>
cC (F_X5_init n33 n38 σ37) fun n42 σ41 =>
cL (uP σ41 a0 7 (some n33)) fun σ44 =>
cL (uI σ44 a0 8 (1 : Int32)) fun σ45 =>
cL (uI σ45 a0 9 (0 : Int32)) fun σ46 =>
cG (kC n42 == (101, 4)) <|
cL (zO σ46 n42) fun σ48 =>
cL (n42 + 1) fun n49 =>
cL (uP σ48 a0 10 (some n42)) fun σ51 =>
cG (kC n49 == (101, 4)) <|
cL (zO σ51 n49) fun σ53 =>
cL (n49 + 1) fun n54 =>
cL (uP σ53 a0 11 (some n49)) fun σ56 =>
cG (kC n54 == (101, 4)) <|
cL (zO σ56 n54) fun σ58 =>
cL (n54 + 1) fun n59 =>
cL (uP σ58 a0 12 (some n54)) fun σ61 =>
cG (kC n59 == (101, 6)) <|
cL (zO σ61 n59) fun σ63 =>
cL (n59 + 1) fun n64 =>
cL (uP σ63 a0 13 (some n59)) fun σ66 =>
cG (kC n64 == (103, 256)) <|
cL (zO σ66 n64) fun σ68 =>
cL (n64 + 1) fun n69 =>
cL (uP σ68 a0 14 (some n64)) fun σ71 =>
cG (kC n69 == (101, 256)) <|
cL (zO σ71 n69) fun σ73 =>
cL (n69 + 1) fun n74 =>
cL (uP σ73 a0 15 (some n69)) fun σ76 =>
some (n74, σ76)
section
variable {p : Program} {l : Launch} {e : Env} {s : State} {m : MethodId} {args : Array Value} {below : List Frame} {meth : Method} {c : Code} {D : va_G} {ay : Nat → ClassId} {ad : Nat → Nat}
set_option maxRecDepth 100000 in
set_option maxHeartbeats 16000000 in
theorem B_X7_init {n0 : Nat} {ad0 : Nat → Nat} {sz n' : Nat} {σ' : hSt} {H : Heap} {locs : List Loc} {ls : Array Slot} (a0 : Nat) (n : Nat) (σ : hSt) (hsz : s.heap.size = sz) (G : Gy p m c cX7_init 1 s args RX7 D ay (aZ n0 ad0 sz)) (hm : meth.sig.returnType = none ∧ meth.locks = false ∧ meth.name = "<init>") (hf : F_X7_init a0 n σ = some (n', σ')) (k_a0 : a0 < n ∧ (kC a0).1 = 7) (w : Wa D ay kC n0 ad0 true n ad (aZ n0 ad0 sz) s σ H locs) (hl : lv_has ls 1 [(0, .ref (ad a0))]) : W p l e (rmA 2 40 16 1011) s m args below meth c H locs 0 0 (MQ below (cA D ay kC n0 ad0 sz true n' σ') args s 16 1011 (aZ n0 ad0 sz)) (F0 m 0 ls []) := by
  unfold F_X7_init at hf
  refine lv_aload_n G.1.1 G.1.2.1 (dcs_get dec_X7_init_0 0 rfl) rfl (lv_at hl 0 rfl) ?_
  refine r_objI q_52 q_29 q_30 ⟨Nat.le_of_ble_eq_true rfl, Nat.le_of_ble_eq_true rfl⟩ G hl.1 (dcs_get dec_X7_init_0 1 rfl) ?_
  refine lv_aload_n G.1.1 G.1.2.1 (dcs_get dec_X7_init_0 2 rfl) rfl (lv_at hl 0 rfl) ?_
  refine lv_iconst (v := (0 : Int32)) G.1.1 G.1.2.1 (dcs_get dec_X7_init_0 3 rfl) (by decide) ?_
  obtain ⟨σ1, e_σ1, hf⟩ := cL_some hf
  refine r_puti (k := 0) cls7 ct7 fi_7_0.1 fi_7_0.2 fp_7_0.1 fp_7_0.2 q_91 rfl rfl (G.gx w) w.1 k_a0.1 k_a0.2 (dcs_get dec_X7_init_0 4 rfl) (fun H locs w1 => ?_)
  have w := Wa_uI e_σ1 w w1
  refine lv_aload_n G.1.1 G.1.2.1 (dcs_get dec_X7_init_0 5 rfl) rfl (lv_at hl 0 rfl) ?_
  refine lv_bipush (v := (6 : Int32)) G.1.1 G.1.2.1 (dcs_get dec_X7_init_0 6 rfl) (by decide) ?_
  obtain ⟨h2, hf⟩ := cG_some hf
  obtain ⟨σ3, e_σ3, hf⟩ := cL_some hf
  obtain ⟨n4, e_n4, hf⟩ := cL_some hf
  refine r_newI (N := 6) (t0 := 1) (ty := .int) ⟨by decide, by decide⟩ (by simp) rfl q_73 (Nat.le_of_ble_eq_true rfl) G w h2 ⟨Nat.le_of_ble_eq_true rfl, Nat.le_of_ble_eq_true rfl⟩ (dcs_get dec_X7_init_0 7 rfl) (fun H ad1 e5 w => ?_)
  rw [← e5 a0 k_a0.1] at hl
  rw [← e5 a0 k_a0.1]
  have k_a0 := And.intro (Nat.lt_of_lt_of_le k_a0.1 (by omega : n ≤ n4)) k_a0.2
  have k_n : n < n4 ∧ (kC n).1 = 101 := ⟨by omega, by rw [eq_of_beq h2]⟩
  have w := Wa_nm e_n4 e_σ3 w
  generalize ad1 = ad at hl w ⊢
  clear e5
  obtain ⟨σ6, e_σ6, hf⟩ := cL_some hf
  refine r_putrF (k := 1) cls7 ctf7 fi_7_1.1 fi_7_1.2 rfl rfl (ctf7.1 1 fi_7_1.1) q_97 (fun _ => rfl) (fun _ => rfl) hm.2.2 (G.gx w) w.1 k_a0.1 k_a0.2 (dcs_get dec_X7_init_0 8 rfl) (fun H locs w1 => ?_)
  have w := Wa_uP e_σ6 k_n.1 w w1
  refine lv_aload_n G.1.1 G.1.2.1 (dcs_get dec_X7_init_0 9 rfl) rfl (lv_at hl 0 rfl) ?_
  refine lv_bipush (v := (6 : Int32)) G.1.1 G.1.2.1 (dcs_get dec_X7_init_0 10 rfl) (by decide) ?_
  obtain ⟨h7, hf⟩ := cG_some hf
  obtain ⟨σ8, e_σ8, hf⟩ := cL_some hf
  obtain ⟨n9, e_n9, hf⟩ := cL_some hf
  refine r_newI (N := 6) (t0 := 1) (ty := .int) ⟨by decide, by decide⟩ (by simp) rfl q_73 (Nat.le_of_ble_eq_true rfl) G w h7 ⟨Nat.le_of_ble_eq_true rfl, Nat.le_of_ble_eq_true rfl⟩ (dcs_get dec_X7_init_0 11 rfl) (fun H ad1 e10 w => ?_)
  rw [← e10 a0 k_a0.1] at hl
  rw [← e10 a0 k_a0.1]
  have k_a0 := And.intro (Nat.lt_of_lt_of_le k_a0.1 (by omega : n4 ≤ n9)) k_a0.2
  have k_n4 : n4 < n9 ∧ (kC n4).1 = 101 := ⟨by omega, by rw [eq_of_beq h7]⟩
  have w := Wa_nm e_n9 e_σ8 w
  generalize ad1 = ad at hl w ⊢
  clear e10
  obtain ⟨σ11, e_σ11, hf⟩ := cL_some hf
  refine r_putrF (k := 2) cls7 ctf7 fi_7_2.1 fi_7_2.2 rfl rfl (ctf7.1 2 fi_7_2.1) q_99 (fun _ => rfl) (fun _ => rfl) hm.2.2 (G.gx w) w.1 k_a0.1 k_a0.2 (dcs_get dec_X7_init_0 12 rfl) (fun H locs w1 => ?_)
  have w := Wa_uP e_σ11 k_n4.1 w w1
  refine lv_aload_n G.1.1 G.1.2.1 (dcs_get dec_X7_init_0 13 rfl) rfl (lv_at hl 0 rfl) ?_
  refine lv_iconst (v := (0 : Int32)) G.1.1 G.1.2.1 (dcs_get dec_X7_init_0 14 rfl) (by decide) ?_
  obtain ⟨σ12, e_σ12, hf⟩ := cL_some hf
  refine r_puti (k := 3) cls7 ct7 fi_7_3.1 fi_7_3.2 fp_7_3.1 fp_7_3.2 q_101 rfl rfl (G.gx w) w.1 k_a0.1 k_a0.2 (dcs_get dec_X7_init_0 15 rfl) (fun H locs w1 => ?_)
  have w := Wa_uI e_σ12 w w1
  refine lv_aload_n G.1.1 G.1.2.1 (dcs_get dec_X7_init_0 16 rfl) rfl (lv_at hl 0 rfl) ?_
  refine lv_iconst (v := (4 : Int32)) G.1.1 G.1.2.1 (dcs_get dec_X7_init_0 17 rfl) (by decide) ?_
  obtain ⟨h13, hf⟩ := cG_some hf
  obtain ⟨σ14, e_σ14, hf⟩ := cL_some hf
  obtain ⟨n15, e_n15, hf⟩ := cL_some hf
  refine r_newI (N := 4) (t0 := 1) (ty := .int) ⟨by decide, by decide⟩ (by simp) rfl q_73 (Nat.le_of_ble_eq_true rfl) G w h13 ⟨Nat.le_of_ble_eq_true rfl, Nat.le_of_ble_eq_true rfl⟩ (dcs_get dec_X7_init_0 18 rfl) (fun H ad1 e16 w => ?_)
  rw [← e16 a0 k_a0.1] at hl
  rw [← e16 a0 k_a0.1]
  have k_a0 := And.intro (Nat.lt_of_lt_of_le k_a0.1 (by omega : n9 ≤ n15)) k_a0.2
  have k_n9 : n9 < n15 ∧ (kC n9).1 = 101 := ⟨by omega, by rw [eq_of_beq h13]⟩
  have w := Wa_nm e_n15 e_σ14 w
  generalize ad1 = ad at hl w ⊢
  clear e16
  obtain ⟨σ17, e_σ17, hf⟩ := cL_some hf
  refine r_putrF (k := 4) cls7 ctf7 fi_7_4.1 fi_7_4.2 rfl rfl (ctf7.1 4 fi_7_4.1) q_106 (fun _ => rfl) (fun _ => rfl) hm.2.2 (G.gx w) w.1 k_a0.1 k_a0.2 (dcs_get dec_X7_init_0 19 rfl) (fun H locs w1 => ?_)
  have w := Wa_uP e_σ17 k_n9.1 w w1
  refine lv_aload_n G.1.1 G.1.2.1 (dcs_get dec_X7_init_0 20 rfl) rfl (lv_at hl 0 rfl) ?_
  obtain ⟨h18, hf⟩ := cG_some hf
  obtain ⟨σ19, e_σ19, hf⟩ := cL_some hf
  obtain ⟨n20, e_n20, hf⟩ := cL_some hf
  refine r_new cls0 ctf0 okt0 q_53 q_54 q_4 G w h18 ⟨Nat.le_of_ble_eq_true rfl, Nat.le_of_ble_eq_true rfl⟩ (dcs_get dec_X7_init_0 21 rfl) (fun H ad1 e21 w => ?_)
  rw [← e21 a0 k_a0.1] at hl
  rw [← e21 a0 k_a0.1]
  have k_a0 := And.intro (Nat.lt_of_lt_of_le k_a0.1 (by omega : n15 ≤ n20)) k_a0.2
  have k_n15 : n15 < n20 ∧ (kC n15).1 = 0 := ⟨by omega, by rw [eq_of_beq h18]⟩
  have w := Wa_nm e_n20 e_σ19 w
  generalize ad1 = ad at hl w ⊢
  clear e21
  refine lv_dup G.1.1 G.1.2.1 (dcs_get dec_X7_init_0 22 rfl) rfl ?_
  obtain ⟨n24, σ23, h22, hf⟩ := cC_some hf
  refine a_A (k_IN (As := []) (rest := [.ref (ad n15), .ref (ad a0)]) lb_X0_init rfl q_56 nm_55 (C_X0_init w.2.1 (w.2.2.2.2 rfl) n15 h22 k_n15) ⟨Nat.le_of_ble_eq_true rfl, Nat.le_of_ble_eq_true rfl⟩ G w rfl rfl hl.1 (Nat.le_of_ble_eq_true rfl) (dcs_get dec_X7_init_0 23 rfl) ⟨Nat.le_of_ble_eq_true rfl, Nat.le_of_ble_eq_true rfl⟩) G w (fun H locs ad1 e25 w => ?_)
  rw [← e25.2 a0 k_a0.1] at hl
  rw [← e25.2 a0 k_a0.1]
  rw [← e25.2 n15 k_n15.1]
  have k_a0 := And.intro (Nat.lt_of_lt_of_le k_a0.1 e25.1) k_a0.2
  have k_n15 := And.intro (Nat.lt_of_lt_of_le k_n15.1 e25.1) k_n15.2
  generalize ad1 = ad at hl w ⊢
  clear e25
  obtain ⟨σ26, e_σ26, hf⟩ := cL_some hf
  refine r_putrF (k := 5) cls7 ctf7 fi_7_5.1 fi_7_5.2 rfl rfl (ctf7.1 5 fi_7_5.1) q_109 (fun _ => rfl) (fun _ => rfl) hm.2.2 (G.gx w) w.1 k_a0.1 k_a0.2 (dcs_get dec_X7_init_0 24 rfl) (fun H locs w1 => ?_)
  have w := Wa_uP e_σ26 k_n15.1 w w1
  refine lv_aload_n G.1.1 G.1.2.1 (dcs_get dec_X7_init_0 25 rfl) rfl (lv_at hl 0 rfl) ?_
  obtain ⟨h27, hf⟩ := cG_some hf
  obtain ⟨σ28, e_σ28, hf⟩ := cL_some hf
  obtain ⟨n29, e_n29, hf⟩ := cL_some hf
  refine r_new cls5 ctf5 okt5 q_74 q_75 q_5 G w h27 ⟨Nat.le_of_ble_eq_true rfl, Nat.le_of_ble_eq_true rfl⟩ (dcs_get dec_X7_init_0 26 rfl) (fun H ad1 e30 w => ?_)
  rw [← e30 a0 k_a0.1] at hl
  rw [← e30 a0 k_a0.1]
  have k_a0 := And.intro (Nat.lt_of_lt_of_le k_a0.1 (by omega : n24 ≤ n29)) k_a0.2
  have k_n24 : n24 < n29 ∧ (kC n24).1 = 5 := ⟨by omega, by rw [eq_of_beq h27]⟩
  have w := Wa_nm e_n29 e_σ28 w
  generalize ad1 = ad at hl w ⊢
  clear e30
  refine lv_dup G.1.1 G.1.2.1 (dcs_get dec_X7_init_0 27 rfl) rfl ?_
  obtain ⟨n33, σ32, h31, hf⟩ := cC_some hf
  refine a_A (k_IN (As := []) (rest := [.ref (ad n24), .ref (ad a0)]) lb_X5_init rfl q_77 nm_76 (C_X5_init w.2.1 (w.2.2.2.2 rfl) n24 h31 k_n24) ⟨Nat.le_of_ble_eq_true rfl, Nat.le_of_ble_eq_true rfl⟩ G w rfl rfl hl.1 (Nat.le_of_ble_eq_true rfl) (dcs_get dec_X7_init_0 28 rfl) ⟨Nat.le_of_ble_eq_true rfl, Nat.le_of_ble_eq_true rfl⟩) G w (fun H locs ad1 e34 w => ?_)
  rw [← e34.2 a0 k_a0.1] at hl
  rw [← e34.2 a0 k_a0.1]
  rw [← e34.2 n24 k_n24.1]
  have k_a0 := And.intro (Nat.lt_of_lt_of_le k_a0.1 e34.1) k_a0.2
  have k_n24 := And.intro (Nat.lt_of_lt_of_le k_n24.1 e34.1) k_n24.2
  generalize ad1 = ad at hl w ⊢
  clear e34
  obtain ⟨σ35, e_σ35, hf⟩ := cL_some hf
  refine r_putrF (k := 6) cls7 ctf7 fi_7_6.1 fi_7_6.2 rfl rfl (ctf7.1 6 fi_7_6.1) q_111 (fun _ => rfl) (fun _ => rfl) hm.2.2 (G.gx w) w.1 k_a0.1 k_a0.2 (dcs_get dec_X7_init_0 29 rfl) (fun H locs w1 => ?_)
  have w := Wa_uP e_σ35 k_n24.1 w w1
  refine lv_aload_n G.1.1 G.1.2.1 (dcs_get dec_X7_init_0 30 rfl) rfl (lv_at hl 0 rfl) ?_
  obtain ⟨h36, hf⟩ := cG_some hf
  obtain ⟨σ37, e_σ37, hf⟩ := cL_some hf
  obtain ⟨n38, e_n38, hf⟩ := cL_some hf
  refine r_new cls5 ctf5 okt5 q_74 q_75 q_5 G w h36 ⟨Nat.le_of_ble_eq_true rfl, Nat.le_of_ble_eq_true rfl⟩ (dcs_get dec_X7_init_0 31 rfl) (fun H ad1 e39 w => ?_)
  rw [← e39 a0 k_a0.1] at hl
  rw [← e39 a0 k_a0.1]
  have k_a0 := And.intro (Nat.lt_of_lt_of_le k_a0.1 (by omega : n33 ≤ n38)) k_a0.2
  have k_n33 : n33 < n38 ∧ (kC n33).1 = 5 := ⟨by omega, by rw [eq_of_beq h36]⟩
  have w := Wa_nm e_n38 e_σ37 w
  generalize ad1 = ad at hl w ⊢
  clear e39
  refine lv_dup G.1.1 G.1.2.1 (dcs_get dec_X7_init_0 32 rfl) rfl ?_
  obtain ⟨n42, σ41, h40, hf⟩ := cC_some hf
  refine a_A (k_IN (As := []) (rest := [.ref (ad n33), .ref (ad a0)]) lb_X5_init rfl q_77 nm_76 (C_X5_init w.2.1 (w.2.2.2.2 rfl) n33 h40 k_n33) ⟨Nat.le_of_ble_eq_true rfl, Nat.le_of_ble_eq_true rfl⟩ G w rfl rfl hl.1 (Nat.le_of_ble_eq_true rfl) (dcs_get dec_X7_init_0 33 rfl) ⟨Nat.le_of_ble_eq_true rfl, Nat.le_of_ble_eq_true rfl⟩) G w (fun H locs ad1 e43 w => ?_)
  rw [← e43.2 a0 k_a0.1] at hl
  rw [← e43.2 a0 k_a0.1]
  rw [← e43.2 n33 k_n33.1]
  have k_a0 := And.intro (Nat.lt_of_lt_of_le k_a0.1 e43.1) k_a0.2
  have k_n33 := And.intro (Nat.lt_of_lt_of_le k_n33.1 e43.1) k_n33.2
  generalize ad1 = ad at hl w ⊢
  clear e43
  obtain ⟨σ44, e_σ44, hf⟩ := cL_some hf
  refine r_putrF (k := 7) cls7 ctf7 fi_7_7.1 fi_7_7.2 rfl rfl (ctf7.1 7 fi_7_7.1) q_114 (fun _ => rfl) (fun _ => rfl) hm.2.2 (G.gx w) w.1 k_a0.1 k_a0.2 (dcs_get dec_X7_init_0 34 rfl) (fun H locs w1 => ?_)
  have w := Wa_uP e_σ44 k_n33.1 w w1
  refine lv_aload_n G.1.1 G.1.2.1 (dcs_get dec_X7_init_0 35 rfl) rfl (lv_at hl 0 rfl) ?_
  refine lv_iconst (v := (1 : Int32)) G.1.1 G.1.2.1 (dcs_get dec_X7_init_0 36 rfl) (by decide) ?_
  obtain ⟨σ45, e_σ45, hf⟩ := cL_some hf
  refine r_puti (k := 8) cls7 ct7 fi_7_8.1 fi_7_8.2 fp_7_8.1 fp_7_8.2 q_117 rfl rfl (G.gx w) w.1 k_a0.1 k_a0.2 (dcs_get dec_X7_init_0 37 rfl) (fun H locs w1 => ?_)
  have w := Wa_uI e_σ45 w w1
  refine lv_aload_n G.1.1 G.1.2.1 (dcs_get dec_X7_init_0 38 rfl) rfl (lv_at hl 0 rfl) ?_
  refine lv_iconst (v := (0 : Int32)) G.1.1 G.1.2.1 (dcs_get dec_X7_init_0 39 rfl) (by decide) ?_
  obtain ⟨σ46, e_σ46, hf⟩ := cL_some hf
  refine r_puti (k := 9) cls7 ct7 fi_7_9.1 fi_7_9.2 fp_7_9.1 fp_7_9.2 q_122 rfl rfl (G.gx w) w.1 k_a0.1 k_a0.2 (dcs_get dec_X7_init_1 0 rfl) (fun H locs w1 => ?_)
  have w := Wa_uI e_σ46 w w1
  refine lv_aload_n G.1.1 G.1.2.1 (dcs_get dec_X7_init_1 1 rfl) rfl (lv_at hl 0 rfl) ?_
  refine lv_iconst (v := (4 : Int32)) G.1.1 G.1.2.1 (dcs_get dec_X7_init_1 2 rfl) (by decide) ?_
  obtain ⟨h47, hf⟩ := cG_some hf
  obtain ⟨σ48, e_σ48, hf⟩ := cL_some hf
  obtain ⟨n49, e_n49, hf⟩ := cL_some hf
  refine r_newI (N := 4) (t0 := 1) (ty := .int) ⟨by decide, by decide⟩ (by simp) rfl q_73 (Nat.le_of_ble_eq_true rfl) G w h47 ⟨Nat.le_of_ble_eq_true rfl, Nat.le_of_ble_eq_true rfl⟩ (dcs_get dec_X7_init_1 3 rfl) (fun H ad1 e50 w => ?_)
  rw [← e50 a0 k_a0.1] at hl
  rw [← e50 a0 k_a0.1]
  have k_a0 := And.intro (Nat.lt_of_lt_of_le k_a0.1 (by omega : n42 ≤ n49)) k_a0.2
  have k_n42 : n42 < n49 ∧ (kC n42).1 = 101 := ⟨by omega, by rw [eq_of_beq h47]⟩
  have w := Wa_nm e_n49 e_σ48 w
  generalize ad1 = ad at hl w ⊢
  clear e50
  obtain ⟨σ51, e_σ51, hf⟩ := cL_some hf
  refine r_putrF (k := 10) cls7 ctf7 fi_7_10.1 fi_7_10.2 rfl rfl (ctf7.1 10 fi_7_10.1) q_126 (fun _ => rfl) (fun _ => rfl) hm.2.2 (G.gx w) w.1 k_a0.1 k_a0.2 (dcs_get dec_X7_init_1 4 rfl) (fun H locs w1 => ?_)
  have w := Wa_uP e_σ51 k_n42.1 w w1
  refine lv_aload_n G.1.1 G.1.2.1 (dcs_get dec_X7_init_1 5 rfl) rfl (lv_at hl 0 rfl) ?_
  refine lv_iconst (v := (4 : Int32)) G.1.1 G.1.2.1 (dcs_get dec_X7_init_1 6 rfl) (by decide) ?_
  obtain ⟨h52, hf⟩ := cG_some hf
  obtain ⟨σ53, e_σ53, hf⟩ := cL_some hf
  obtain ⟨n54, e_n54, hf⟩ := cL_some hf
  refine r_newI (N := 4) (t0 := 1) (ty := .int) ⟨by decide, by decide⟩ (by simp) rfl q_73 (Nat.le_of_ble_eq_true rfl) G w h52 ⟨Nat.le_of_ble_eq_true rfl, Nat.le_of_ble_eq_true rfl⟩ (dcs_get dec_X7_init_1 7 rfl) (fun H ad1 e55 w => ?_)
  rw [← e55 a0 k_a0.1] at hl
  rw [← e55 a0 k_a0.1]
  have k_a0 := And.intro (Nat.lt_of_lt_of_le k_a0.1 (by omega : n49 ≤ n54)) k_a0.2
  have k_n49 : n49 < n54 ∧ (kC n49).1 = 101 := ⟨by omega, by rw [eq_of_beq h52]⟩
  have w := Wa_nm e_n54 e_σ53 w
  generalize ad1 = ad at hl w ⊢
  clear e55
  obtain ⟨σ56, e_σ56, hf⟩ := cL_some hf
  refine r_putrF (k := 11) cls7 ctf7 fi_7_11.1 fi_7_11.2 rfl rfl (ctf7.1 11 fi_7_11.1) q_129 (fun _ => rfl) (fun _ => rfl) hm.2.2 (G.gx w) w.1 k_a0.1 k_a0.2 (dcs_get dec_X7_init_1 8 rfl) (fun H locs w1 => ?_)
  have w := Wa_uP e_σ56 k_n49.1 w w1
  refine lv_aload_n G.1.1 G.1.2.1 (dcs_get dec_X7_init_1 9 rfl) rfl (lv_at hl 0 rfl) ?_
  refine lv_iconst (v := (4 : Int32)) G.1.1 G.1.2.1 (dcs_get dec_X7_init_1 10 rfl) (by decide) ?_
  obtain ⟨h57, hf⟩ := cG_some hf
  obtain ⟨σ58, e_σ58, hf⟩ := cL_some hf
  obtain ⟨n59, e_n59, hf⟩ := cL_some hf
  refine r_newI (N := 4) (t0 := 1) (ty := .int) ⟨by decide, by decide⟩ (by simp) rfl q_73 (Nat.le_of_ble_eq_true rfl) G w h57 ⟨Nat.le_of_ble_eq_true rfl, Nat.le_of_ble_eq_true rfl⟩ (dcs_get dec_X7_init_1 11 rfl) (fun H ad1 e60 w => ?_)
  rw [← e60 a0 k_a0.1] at hl
  rw [← e60 a0 k_a0.1]
  have k_a0 := And.intro (Nat.lt_of_lt_of_le k_a0.1 (by omega : n54 ≤ n59)) k_a0.2
  have k_n54 : n54 < n59 ∧ (kC n54).1 = 101 := ⟨by omega, by rw [eq_of_beq h57]⟩
  have w := Wa_nm e_n59 e_σ58 w
  generalize ad1 = ad at hl w ⊢
  clear e60
  obtain ⟨σ61, e_σ61, hf⟩ := cL_some hf
  refine r_putrF (k := 12) cls7 ctf7 fi_7_12.1 fi_7_12.2 rfl rfl (ctf7.1 12 fi_7_12.1) q_132 (fun _ => rfl) (fun _ => rfl) hm.2.2 (G.gx w) w.1 k_a0.1 k_a0.2 (dcs_get dec_X7_init_1 12 rfl) (fun H locs w1 => ?_)
  have w := Wa_uP e_σ61 k_n54.1 w w1
  refine lv_aload_n G.1.1 G.1.2.1 (dcs_get dec_X7_init_1 13 rfl) rfl (lv_at hl 0 rfl) ?_
  refine lv_bipush (v := (6 : Int32)) G.1.1 G.1.2.1 (dcs_get dec_X7_init_1 14 rfl) (by decide) ?_
  obtain ⟨h62, hf⟩ := cG_some hf
  obtain ⟨σ63, e_σ63, hf⟩ := cL_some hf
  obtain ⟨n64, e_n64, hf⟩ := cL_some hf
  refine r_newI (N := 6) (t0 := 1) (ty := .int) ⟨by decide, by decide⟩ (by simp) rfl q_73 (Nat.le_of_ble_eq_true rfl) G w h62 ⟨Nat.le_of_ble_eq_true rfl, Nat.le_of_ble_eq_true rfl⟩ (dcs_get dec_X7_init_1 15 rfl) (fun H ad1 e65 w => ?_)
  rw [← e65 a0 k_a0.1] at hl
  rw [← e65 a0 k_a0.1]
  have k_a0 := And.intro (Nat.lt_of_lt_of_le k_a0.1 (by omega : n59 ≤ n64)) k_a0.2
  have k_n59 : n59 < n64 ∧ (kC n59).1 = 101 := ⟨by omega, by rw [eq_of_beq h62]⟩
  have w := Wa_nm e_n64 e_σ63 w
  generalize ad1 = ad at hl w ⊢
  clear e65
  obtain ⟨σ66, e_σ66, hf⟩ := cL_some hf
  refine r_putrF (k := 13) cls7 ctf7 fi_7_13.1 fi_7_13.2 rfl rfl (ctf7.1 13 fi_7_13.1) q_135 (fun _ => rfl) (fun _ => rfl) hm.2.2 (G.gx w) w.1 k_a0.1 k_a0.2 (dcs_get dec_X7_init_1 16 rfl) (fun H locs w1 => ?_)
  have w := Wa_uP e_σ66 k_n59.1 w w1
  refine lv_aload_n G.1.1 G.1.2.1 (dcs_get dec_X7_init_1 17 rfl) rfl (lv_at hl 0 rfl) ?_
  refine lv_sipush (v := (256 : Int32)) G.1.1 G.1.2.1 (dcs_get dec_X7_init_1 18 rfl) (by decide) ?_
  obtain ⟨h67, hf⟩ := cG_some hf
  obtain ⟨σ68, e_σ68, hf⟩ := cL_some hf
  obtain ⟨n69, e_n69, hf⟩ := cL_some hf
  refine r_newJ (N := 256) ⟨by decide, by decide⟩ q_171 (Nat.le_of_ble_eq_true rfl) G w h67 ⟨Nat.le_of_ble_eq_true rfl, Nat.le_of_ble_eq_true rfl⟩ (dcs_get dec_X7_init_1 19 rfl) (fun H ad1 e70 w => ?_)
  rw [← e70 a0 k_a0.1] at hl
  rw [← e70 a0 k_a0.1]
  have k_a0 := And.intro (Nat.lt_of_lt_of_le k_a0.1 (by omega : n64 ≤ n69)) k_a0.2
  have k_n64 : n64 < n69 ∧ (kC n64).1 = 103 := ⟨by omega, by rw [eq_of_beq h67]⟩
  have w := Wa_nm e_n69 e_σ68 w
  generalize ad1 = ad at hl w ⊢
  clear e70
  obtain ⟨σ71, e_σ71, hf⟩ := cL_some hf
  refine r_putrF (k := 14) cls7 ctf7 fi_7_14.1 fi_7_14.2 rfl rfl (ctf7.1 14 fi_7_14.1) q_136 (fun _ => rfl) (fun _ => rfl) hm.2.2 (G.gx w) w.1 k_a0.1 k_a0.2 (dcs_get dec_X7_init_1 20 rfl) (fun H locs w1 => ?_)
  have w := Wa_uP e_σ71 k_n64.1 w w1
  refine lv_aload_n G.1.1 G.1.2.1 (dcs_get dec_X7_init_1 21 rfl) rfl (lv_at hl 0 rfl) ?_
  refine lv_sipush (v := (256 : Int32)) G.1.1 G.1.2.1 (dcs_get dec_X7_init_1 22 rfl) (by decide) ?_
  obtain ⟨h72, hf⟩ := cG_some hf
  obtain ⟨σ73, e_σ73, hf⟩ := cL_some hf
  obtain ⟨n74, e_n74, hf⟩ := cL_some hf
  refine r_newI (N := 256) (t0 := 1) (ty := .int) ⟨by decide, by decide⟩ (by simp) rfl q_73 (Nat.le_of_ble_eq_true rfl) G w h72 ⟨Nat.le_of_ble_eq_true rfl, Nat.le_of_ble_eq_true rfl⟩ (dcs_get dec_X7_init_1 23 rfl) (fun H ad1 e75 w => ?_)
  rw [← e75 a0 k_a0.1] at hl
  rw [← e75 a0 k_a0.1]
  have k_a0 := And.intro (Nat.lt_of_lt_of_le k_a0.1 (by omega : n69 ≤ n74)) k_a0.2
  have k_n69 : n69 < n74 ∧ (kC n69).1 = 101 := ⟨by omega, by rw [eq_of_beq h72]⟩
  have w := Wa_nm e_n74 e_σ73 w
  generalize ad1 = ad at hl w ⊢
  clear e75
  obtain ⟨σ76, e_σ76, hf⟩ := cL_some hf
  refine r_putrF (k := 15) cls7 ctf7 fi_7_15.1 fi_7_15.2 rfl rfl (ctf7.1 15 fi_7_15.1) q_137 (fun _ => rfl) (fun _ => rfl) hm.2.2 (G.gx w) w.1 k_a0.1 k_a0.2 (dcs_get dec_X7_init_1 24 rfl) (fun H locs w1 => ?_)
  have w := Wa_uP e_σ76 k_n69.1 w w1
  have e9 := Option.some.inj hf
  refine W.widen (k := 16) (n := 1011) (Nat.le_of_ble_eq_true rfl) (Nat.le_of_ble_eq_true rfl) ?_
  exact r_vretA hsz G w hm (fun h => rfl) (congrArg Prod.fst e9) (congrArg Prod.snd e9) (dcs_get dec_X7_init_1 25 rfl)
end
set_option maxRecDepth 100000 in
set_option maxHeartbeats 16000000 in
theorem C_X7_init {l : Launch} {D : va_G} {ay : Nat → ClassId} {ad : Nat → Nat} {n n' sz : Nat} {σ σ' : hSt} (hi : hInj n ad) (hR : RO n σ) (a0 : Nat) (hf : F_X7_init a0 n σ = some (n', σ')) (k_a0 : a0 < n ∧ (kC a0).1 = 7) : hMA l D ay kC n ad sz yX7_init cX7_init 1 (rmA 2 40 16 1011) [.ref (ad a0)] σ true n' σ' 16 1011 := by
  refine hMA_in (by decide) rfl hi hR (Nat.le_of_ble_eq_true rfl) ?_
  intro p e s m below meth c hsz G hm w ls hl
  exact B_X7_init a0 n σ hsz G hm hf k_a0 w hl

/-! HillDrums.Tokens.<init> -/
def DL_X8_init_0 : List (Nat × Instr × Nat) := [(0, .aload_n 0, 1), (1, .invokespecial 3, 3), (4, .aload_n 0, 1), (5, .sipush 401, 3), (8, .newarray .int, 2), (10, .putfield 9, 3), (13, .aload_n 0, 1), (14, .sipush 401, 3), (17, .newarray .int, 2), (19, .putfield 15, 3), (22, .aload_n 0, 1), (23, .sipush 401, 3), (26, .newarray .long, 2), (28, .putfield 18, 3), (31, .return_, 1)]
set_option maxRecDepth 100000 in
theorem dec_X8_init_0 : dcs cX8_init DL_X8_init_0 = true := by decide +kernel
theorem lb_X8_init : lkB yX8_init cX8_init 1 (none) 0 := ⟨q_182, q_7, ⟨by decide, by decide⟩, by decide +kernel⟩
set_option maxRecDepth 100000 in
def F_X8_init (a0 : Nat) (n : Nat) (σ : hSt) : Option (Nat × hSt) :=
cG (kC n == (101, 401)) <|
cL (zO σ n) fun σ2 =>
cL (n + 1) fun n3 =>
cL (uP σ2 a0 0 (some n)) fun σ5 =>
cG (kC n3 == (101, 401)) <|
cL (zO σ5 n3) fun σ7 =>
cL (n3 + 1) fun n8 =>
cL (uP σ7 a0 1 (some n3)) fun σ10 =>
cG (kC n8 == (103, 401)) <|
cL (zO σ10 n8) fun σ12 =>
cL (n8 + 1) fun n13 =>
cL (uP σ12 a0 2 (some n8)) fun σ15 =>
some (n13, σ15)
section
variable {p : Program} {l : Launch} {e : Env} {s : State} {m : MethodId} {args : Array Value} {below : List Frame} {meth : Method} {c : Code} {D : va_G} {ay : Nat → ClassId} {ad : Nat → Nat}
set_option maxRecDepth 100000 in
set_option maxHeartbeats 16000000 in
theorem B_X8_init {n0 : Nat} {ad0 : Nat → Nat} {sz n' : Nat} {σ' : hSt} {H : Heap} {locs : List Loc} {ls : Array Slot} (a0 : Nat) (n : Nat) (σ : hSt) (hsz : s.heap.size = sz) (G : Gy p m c cX8_init 1 s args RX8 D ay (aZ n0 ad0 sz)) (hm : meth.sig.returnType = none ∧ meth.locks = false ∧ meth.name = "<init>") (hf : F_X8_init a0 n σ = some (n', σ')) (k_a0 : a0 < n ∧ (kC a0).1 = 8) (w : Wa D ay kC n0 ad0 true n ad (aZ n0 ad0 sz) s σ H locs) (hl : lv_has ls 1 [(0, .ref (ad a0))]) : W p l e (rmA 1 20 3 1203) s m args below meth c H locs 0 0 (MQ below (cA D ay kC n0 ad0 sz true n' σ') args s 3 1203 (aZ n0 ad0 sz)) (F0 m 0 ls []) := by
  unfold F_X8_init at hf
  refine lv_aload_n G.1.1 G.1.2.1 (dcs_get dec_X8_init_0 0 rfl) rfl (lv_at hl 0 rfl) ?_
  refine r_objI q_183 q_29 q_30 ⟨Nat.le_of_ble_eq_true rfl, Nat.le_of_ble_eq_true rfl⟩ G hl.1 (dcs_get dec_X8_init_0 1 rfl) ?_
  refine lv_aload_n G.1.1 G.1.2.1 (dcs_get dec_X8_init_0 2 rfl) rfl (lv_at hl 0 rfl) ?_
  refine lv_sipush (v := (401 : Int32)) G.1.1 G.1.2.1 (dcs_get dec_X8_init_0 3 rfl) (by decide) ?_
  obtain ⟨h1, hf⟩ := cG_some hf
  obtain ⟨σ2, e_σ2, hf⟩ := cL_some hf
  obtain ⟨n3, e_n3, hf⟩ := cL_some hf
  refine r_newI (N := 401) (t0 := 1) (ty := .int) ⟨by decide, by decide⟩ (by simp) rfl q_73 (Nat.le_of_ble_eq_true rfl) G w h1 ⟨Nat.le_of_ble_eq_true rfl, Nat.le_of_ble_eq_true rfl⟩ (dcs_get dec_X8_init_0 4 rfl) (fun H ad1 e4 w => ?_)
  rw [← e4 a0 k_a0.1] at hl
  rw [← e4 a0 k_a0.1]
  have k_a0 := And.intro (Nat.lt_of_lt_of_le k_a0.1 (by omega : n ≤ n3)) k_a0.2
  have k_n : n < n3 ∧ (kC n).1 = 101 := ⟨by omega, by rw [eq_of_beq h1]⟩
  have w := Wa_nm e_n3 e_σ2 w
  generalize ad1 = ad at hl w ⊢
  clear e4
  obtain ⟨σ5, e_σ5, hf⟩ := cL_some hf
  refine r_putrF (k := 0) cls8 ctf8 fi_8_0.1 fi_8_0.2 rfl rfl (ctf8.1 0 fi_8_0.1) q_184 (fun _ => rfl) (fun _ => rfl) hm.2.2 (G.gx w) w.1 k_a0.1 k_a0.2 (dcs_get dec_X8_init_0 5 rfl) (fun H locs w1 => ?_)
  have w := Wa_uP e_σ5 k_n.1 w w1
  refine lv_aload_n G.1.1 G.1.2.1 (dcs_get dec_X8_init_0 6 rfl) rfl (lv_at hl 0 rfl) ?_
  refine lv_sipush (v := (401 : Int32)) G.1.1 G.1.2.1 (dcs_get dec_X8_init_0 7 rfl) (by decide) ?_
  obtain ⟨h6, hf⟩ := cG_some hf
  obtain ⟨σ7, e_σ7, hf⟩ := cL_some hf
  obtain ⟨n8, e_n8, hf⟩ := cL_some hf
  refine r_newI (N := 401) (t0 := 1) (ty := .int) ⟨by decide, by decide⟩ (by simp) rfl q_73 (Nat.le_of_ble_eq_true rfl) G w h6 ⟨Nat.le_of_ble_eq_true rfl, Nat.le_of_ble_eq_true rfl⟩ (dcs_get dec_X8_init_0 8 rfl) (fun H ad1 e9 w => ?_)
  rw [← e9 a0 k_a0.1] at hl
  rw [← e9 a0 k_a0.1]
  have k_a0 := And.intro (Nat.lt_of_lt_of_le k_a0.1 (by omega : n3 ≤ n8)) k_a0.2
  have k_n3 : n3 < n8 ∧ (kC n3).1 = 101 := ⟨by omega, by rw [eq_of_beq h6]⟩
  have w := Wa_nm e_n8 e_σ7 w
  generalize ad1 = ad at hl w ⊢
  clear e9
  obtain ⟨σ10, e_σ10, hf⟩ := cL_some hf
  refine r_putrF (k := 1) cls8 ctf8 fi_8_1.1 fi_8_1.2 rfl rfl (ctf8.1 1 fi_8_1.1) q_186 (fun _ => rfl) (fun _ => rfl) hm.2.2 (G.gx w) w.1 k_a0.1 k_a0.2 (dcs_get dec_X8_init_0 9 rfl) (fun H locs w1 => ?_)
  have w := Wa_uP e_σ10 k_n3.1 w w1
  refine lv_aload_n G.1.1 G.1.2.1 (dcs_get dec_X8_init_0 10 rfl) rfl (lv_at hl 0 rfl) ?_
  refine lv_sipush (v := (401 : Int32)) G.1.1 G.1.2.1 (dcs_get dec_X8_init_0 11 rfl) (by decide) ?_
  obtain ⟨h11, hf⟩ := cG_some hf
  obtain ⟨σ12, e_σ12, hf⟩ := cL_some hf
  obtain ⟨n13, e_n13, hf⟩ := cL_some hf
  refine r_newJ (N := 401) ⟨by decide, by decide⟩ q_171 (Nat.le_of_ble_eq_true rfl) G w h11 ⟨Nat.le_of_ble_eq_true rfl, Nat.le_of_ble_eq_true rfl⟩ (dcs_get dec_X8_init_0 12 rfl) (fun H ad1 e14 w => ?_)
  rw [← e14 a0 k_a0.1] at hl
  rw [← e14 a0 k_a0.1]
  have k_a0 := And.intro (Nat.lt_of_lt_of_le k_a0.1 (by omega : n8 ≤ n13)) k_a0.2
  have k_n8 : n8 < n13 ∧ (kC n8).1 = 103 := ⟨by omega, by rw [eq_of_beq h11]⟩
  have w := Wa_nm e_n13 e_σ12 w
  generalize ad1 = ad at hl w ⊢
  clear e14
  obtain ⟨σ15, e_σ15, hf⟩ := cL_some hf
  refine r_putrF (k := 2) cls8 ctf8 fi_8_2.1 fi_8_2.2 rfl rfl (ctf8.1 2 fi_8_2.1) q_188 (fun _ => rfl) (fun _ => rfl) hm.2.2 (G.gx w) w.1 k_a0.1 k_a0.2 (dcs_get dec_X8_init_0 13 rfl) (fun H locs w1 => ?_)
  have w := Wa_uP e_σ15 k_n8.1 w w1
  have e9 := Option.some.inj hf
  refine W.widen (k := 3) (n := 1203) (Nat.le_of_ble_eq_true rfl) (Nat.le_of_ble_eq_true rfl) ?_
  exact r_vretA hsz G w hm (fun h => rfl) (congrArg Prod.fst e9) (congrArg Prod.snd e9) (dcs_get dec_X8_init_0 14 rfl)
end
set_option maxRecDepth 100000 in
set_option maxHeartbeats 16000000 in
theorem C_X8_init {l : Launch} {D : va_G} {ay : Nat → ClassId} {ad : Nat → Nat} {n n' sz : Nat} {σ σ' : hSt} (hi : hInj n ad) (hR : RO n σ) (a0 : Nat) (hf : F_X8_init a0 n σ = some (n', σ')) (k_a0 : a0 < n ∧ (kC a0).1 = 8) : hMA l D ay kC n ad sz yX8_init cX8_init 1 (rmA 1 20 3 1203) [.ref (ad a0)] σ true n' σ' 3 1203 := by
  refine hMA_in (by decide) rfl hi hR (Nat.le_of_ble_eq_true rfl) ?_
  intro p e s m below meth c hsz G hm w ls hl
  exact B_X8_init a0 n σ hsz G hm hf k_a0 w hl

/-! HillDrums.Reader.<init> -/
def DL_X4_init_0 : List (Nat × Instr × Nat) := [(0, .aload_n 0, 1), (1, .invokespecial 3, 3), (4, .aload_n 0, 1), (5, .new 9, 3), (8, .dup, 1), (9, .invokespecial 11, 3), (12, .putfield 12, 3), (15, .aload_n 0, 1), (16, .bipush 6, 2), (18, .newarray .long, 2), (20, .putfield 18, 3), (23, .aload_n 0, 1), (24, .iconst 4, 1), (25, .newarray .long, 2), (27, .putfield 22, 3), (30, .aload_n 0, 1), (31, .iconst 0, 1), (32, .putfield 25, 3), (35, .aload_n 0, 1), (36, .iconst 0, 1), (37, .putfield 29, 3), (40, .aload_n 0, 1), (41, .iconst (-1), 1), (42, .putfield 32, 3), (45, .aload_n 0, 1), (46, .iconst 0, 1), (47, .putfield 35, 3), (50, .aload_n 0, 1), (51, .iconst (-1), 1), (52, .putfield 38, 3), (55, .aload_n 0, 1), (56, .aload_n 1, 1), (57, .putfield 41, 3), (60, .return_, 1)]
set_option maxRecDepth 100000 in
theorem dec_X4_init_0 : dcs cX4_init DL_X4_init_0 = true := by decide +kernel
theorem lb_X4_init : lkB yX4_init cX4_init 2 (none) 1 := ⟨q_176, q_6, ⟨by decide, by decide⟩, by decide +kernel⟩
set_option maxRecDepth 100000 in
def F_X4_init (a0 : Nat) (a1 : Nat) (n : Nat) (σ : hSt) : Option (Nat × hSt) :=
cG (kC n == (8, 0)) <|
cL (zO σ n) fun σ2 =>
cL (n + 1) fun n3 =>
cC (F_X8_init n n3 σ2) fun n7 σ6 =>
cL (uP σ6 a0 0 (some n)) fun σ9 =>
cG (kC n7 == (103, 6)) <|
cL (zO σ9 n7) fun σ11 =>
cL (n7 + 1) fun n12 =>
cL (uP σ11 a0 1 (some n7)) fun σ14 =>
cG (kC n12 == (103, 4)) <|
cL (zO σ14 n12) fun σ16 =>
cL (n12 + 1) fun n17 =>
cL (uP σ16 a0 2 (some n12)) fun σ19 =>
cL (uI σ19 a0 4 (0 : Int32)) fun σ20 =>
cL (uI σ20 a0 5 (0 : Int32)) fun σ21 =>
cL (uI σ21 a0 6 (-1 : Int32)) fun σ22 =>
cL (uI σ22 a0 7 (0 : Int32)) fun σ23 =>
cL (uI σ23 a0 8 (-1 : Int32)) fun σ24 =>
cL (uP σ24 a0 3 (some a1)) fun σ25 =>
some (n17, σ25)
section
variable {p : Program} {l : Launch} {e : Env} {s : State} {m : MethodId} {args : Array Value} {below : List Frame} {meth : Method} {c : Code} {D : va_G} {ay : Nat → ClassId} {ad : Nat → Nat}
set_option maxRecDepth 100000 in
set_option maxHeartbeats 16000000 in
theorem B_X4_init {n0 : Nat} {ad0 : Nat → Nat} {sz n' : Nat} {σ' : hSt} {H : Heap} {locs : List Loc} {ls : Array Slot} (a0 : Nat) (a1 : Nat) (n : Nat) (σ : hSt) (hsz : s.heap.size = sz) (G : Gy p m c cX4_init 2 s args RX4 D ay (aZ n0 ad0 sz)) (hm : meth.sig.returnType = none ∧ meth.locks = false ∧ meth.name = "<init>") (hf : F_X4_init a0 a1 n σ = some (n', σ')) (k_a0 : a0 < n ∧ (kC a0).1 = 4) (k_a1 : a1 < n ∧ (kC a1).1 = 7) (w : Wa D ay kC n0 ad0 true n ad (aZ n0 ad0 sz) s σ H locs) (hl : lv_has ls 2 [(0, .ref (ad a0)), (1, .ref (ad a1))]) : W p l e (rmA 2 40 6 1216) s m args below meth c H locs 0 0 (MQ below (cA D ay kC n0 ad0 sz true n' σ') args s 6 1216 (aZ n0 ad0 sz)) (F0 m 0 ls []) := by
  unfold F_X4_init at hf
  refine lv_aload_n G.1.1 G.1.2.1 (dcs_get dec_X4_init_0 0 rfl) rfl (lv_at hl 0 rfl) ?_
  refine r_objI q_177 q_29 q_30 ⟨Nat.le_of_ble_eq_true rfl, Nat.le_of_ble_eq_true rfl⟩ G hl.1 (dcs_get dec_X4_init_0 1 rfl) ?_
  refine lv_aload_n G.1.1 G.1.2.1 (dcs_get dec_X4_init_0 2 rfl) rfl (lv_at hl 0 rfl) ?_
  obtain ⟨h1, hf⟩ := cG_some hf
  obtain ⟨σ2, e_σ2, hf⟩ := cL_some hf
  obtain ⟨n3, e_n3, hf⟩ := cL_some hf
  refine r_new cls8 ctf8 okt8 q_178 q_179 q_7 G w h1 ⟨Nat.le_of_ble_eq_true rfl, Nat.le_of_ble_eq_true rfl⟩ (dcs_get dec_X4_init_0 3 rfl) (fun H ad1 e4 w => ?_)
  rw [← e4 a0 k_a0.1] at hl
  rw [← e4 a1 k_a1.1] at hl
  rw [← e4 a0 k_a0.1]
  have k_a0 := And.intro (Nat.lt_of_lt_of_le k_a0.1 (by omega : n ≤ n3)) k_a0.2
  have k_a1 := And.intro (Nat.lt_of_lt_of_le k_a1.1 (by omega : n ≤ n3)) k_a1.2
  have k_n : n < n3 ∧ (kC n).1 = 8 := ⟨by omega, by rw [eq_of_beq h1]⟩
  have w := Wa_nm e_n3 e_σ2 w
  generalize ad1 = ad at hl w ⊢
  clear e4
  refine lv_dup G.1.1 G.1.2.1 (dcs_get dec_X4_init_0 4 rfl) rfl ?_
  obtain ⟨n7, σ6, h5, hf⟩ := cC_some hf
  refine a_A (k_IN (As := []) (rest := [.ref (ad n), .ref (ad a0)]) lb_X8_init rfl q_181 nm_180 (C_X8_init w.2.1 (w.2.2.2.2 rfl) n h5 k_n) ⟨Nat.le_of_ble_eq_true rfl, Nat.le_of_ble_eq_true rfl⟩ G w rfl rfl hl.1 (Nat.le_of_ble_eq_true rfl) (dcs_get dec_X4_init_0 5 rfl) ⟨Nat.le_of_ble_eq_true rfl, Nat.le_of_ble_eq_true rfl⟩) G w (fun H locs ad1 e8 w => ?_)
  rw [← e8.2 a0 k_a0.1] at hl
  rw [← e8.2 a1 k_a1.1] at hl
  rw [← e8.2 a0 k_a0.1]
  rw [← e8.2 n k_n.1]
  have k_a0 := And.intro (Nat.lt_of_lt_of_le k_a0.1 e8.1) k_a0.2
  have k_a1 := And.intro (Nat.lt_of_lt_of_le k_a1.1 e8.1) k_a1.2
  have k_n := And.intro (Nat.lt_of_lt_of_le k_n.1 e8.1) k_n.2
  generalize ad1 = ad at hl w ⊢
  clear e8
  obtain ⟨σ9, e_σ9, hf⟩ := cL_some hf
  refine r_putrF (k := 0) cls4 ctf4 fi_4_0.1 fi_4_0.2 rfl rfl (ctf4.1 0 fi_4_0.1) q_197 (fun _ => rfl) (fun _ => rfl) hm.2.2 (G.gx w) w.1 k_a0.1 k_a0.2 (dcs_get dec_X4_init_0 6 rfl) (fun H locs w1 => ?_)
  have w := Wa_uP e_σ9 k_n.1 w w1
  refine lv_aload_n G.1.1 G.1.2.1 (dcs_get dec_X4_init_0 7 rfl) rfl (lv_at hl 0 rfl) ?_
  refine lv_bipush (v := (6 : Int32)) G.1.1 G.1.2.1 (dcs_get dec_X4_init_0 8 rfl) (by decide) ?_
  obtain ⟨h10, hf⟩ := cG_some hf
  obtain ⟨σ11, e_σ11, hf⟩ := cL_some hf
  obtain ⟨n12, e_n12, hf⟩ := cL_some hf
  refine r_newJ (N := 6) ⟨by decide, by decide⟩ q_171 (Nat.le_of_ble_eq_true rfl) G w h10 ⟨Nat.le_of_ble_eq_true rfl, Nat.le_of_ble_eq_true rfl⟩ (dcs_get dec_X4_init_0 9 rfl) (fun H ad1 e13 w => ?_)
  rw [← e13 a0 k_a0.1] at hl
  rw [← e13 a1 k_a1.1] at hl
  rw [← e13 a0 k_a0.1]
  have k_a0 := And.intro (Nat.lt_of_lt_of_le k_a0.1 (by omega : n7 ≤ n12)) k_a0.2
  have k_a1 := And.intro (Nat.lt_of_lt_of_le k_a1.1 (by omega : n7 ≤ n12)) k_a1.2
  have k_n7 : n7 < n12 ∧ (kC n7).1 = 103 := ⟨by omega, by rw [eq_of_beq h10]⟩
  have w := Wa_nm e_n12 e_σ11 w
  generalize ad1 = ad at hl w ⊢
  clear e13
  obtain ⟨σ14, e_σ14, hf⟩ := cL_some hf
  refine r_putrF (k := 1) cls4 ctf4 fi_4_1.1 fi_4_1.2 rfl rfl (ctf4.1 1 fi_4_1.1) q_198 (fun _ => rfl) (fun _ => rfl) hm.2.2 (G.gx w) w.1 k_a0.1 k_a0.2 (dcs_get dec_X4_init_0 10 rfl) (fun H locs w1 => ?_)
  have w := Wa_uP e_σ14 k_n7.1 w w1
  refine lv_aload_n G.1.1 G.1.2.1 (dcs_get dec_X4_init_0 11 rfl) rfl (lv_at hl 0 rfl) ?_
  refine lv_iconst (v := (4 : Int32)) G.1.1 G.1.2.1 (dcs_get dec_X4_init_0 12 rfl) (by decide) ?_
  obtain ⟨h15, hf⟩ := cG_some hf
  obtain ⟨σ16, e_σ16, hf⟩ := cL_some hf
  obtain ⟨n17, e_n17, hf⟩ := cL_some hf
  refine r_newJ (N := 4) ⟨by decide, by decide⟩ q_171 (Nat.le_of_ble_eq_true rfl) G w h15 ⟨Nat.le_of_ble_eq_true rfl, Nat.le_of_ble_eq_true rfl⟩ (dcs_get dec_X4_init_0 13 rfl) (fun H ad1 e18 w => ?_)
  rw [← e18 a0 k_a0.1] at hl
  rw [← e18 a1 k_a1.1] at hl
  rw [← e18 a0 k_a0.1]
  have k_a0 := And.intro (Nat.lt_of_lt_of_le k_a0.1 (by omega : n12 ≤ n17)) k_a0.2
  have k_a1 := And.intro (Nat.lt_of_lt_of_le k_a1.1 (by omega : n12 ≤ n17)) k_a1.2
  have k_n12 : n12 < n17 ∧ (kC n12).1 = 103 := ⟨by omega, by rw [eq_of_beq h15]⟩
  have w := Wa_nm e_n17 e_σ16 w
  generalize ad1 = ad at hl w ⊢
  clear e18
  obtain ⟨σ19, e_σ19, hf⟩ := cL_some hf
  refine r_putrF (k := 2) cls4 ctf4 fi_4_2.1 fi_4_2.2 rfl rfl (ctf4.1 2 fi_4_2.1) q_199 (fun _ => rfl) (fun _ => rfl) hm.2.2 (G.gx w) w.1 k_a0.1 k_a0.2 (dcs_get dec_X4_init_0 14 rfl) (fun H locs w1 => ?_)
  have w := Wa_uP e_σ19 k_n12.1 w w1
  refine lv_aload_n G.1.1 G.1.2.1 (dcs_get dec_X4_init_0 15 rfl) rfl (lv_at hl 0 rfl) ?_
  refine lv_iconst (v := (0 : Int32)) G.1.1 G.1.2.1 (dcs_get dec_X4_init_0 16 rfl) (by decide) ?_
  obtain ⟨σ20, e_σ20, hf⟩ := cL_some hf
  refine r_puti (k := 4) cls4 ct4 fi_4_4.1 fi_4_4.2 fp_4_4.1 fp_4_4.2 q_201 rfl rfl (G.gx w) w.1 k_a0.1 k_a0.2 (dcs_get dec_X4_init_0 17 rfl) (fun H locs w1 => ?_)
  have w := Wa_uI e_σ20 w w1
  refine lv_aload_n G.1.1 G.1.2.1 (dcs_get dec_X4_init_0 18 rfl) rfl (lv_at hl 0 rfl) ?_
  refine lv_iconst (v := (0 : Int32)) G.1.1 G.1.2.1 (dcs_get dec_X4_init_0 19 rfl) (by decide) ?_
  obtain ⟨σ21, e_σ21, hf⟩ := cL_some hf
  refine r_puti (k := 5) cls4 ct4 fi_4_5.1 fi_4_5.2 fp_4_5.1 fp_4_5.2 q_202 rfl rfl (G.gx w) w.1 k_a0.1 k_a0.2 (dcs_get dec_X4_init_0 20 rfl) (fun H locs w1 => ?_)
  have w := Wa_uI e_σ21 w w1
  refine lv_aload_n G.1.1 G.1.2.1 (dcs_get dec_X4_init_0 21 rfl) rfl (lv_at hl 0 rfl) ?_
  refine lv_iconst (v := (-1 : Int32)) G.1.1 G.1.2.1 (dcs_get dec_X4_init_0 22 rfl) (by decide) ?_
  obtain ⟨σ22, e_σ22, hf⟩ := cL_some hf
  refine r_puti (k := 6) cls4 ct4 fi_4_6.1 fi_4_6.2 fp_4_6.1 fp_4_6.2 q_204 rfl rfl (G.gx w) w.1 k_a0.1 k_a0.2 (dcs_get dec_X4_init_0 23 rfl) (fun H locs w1 => ?_)
  have w := Wa_uI e_σ22 w w1
  refine lv_aload_n G.1.1 G.1.2.1 (dcs_get dec_X4_init_0 24 rfl) rfl (lv_at hl 0 rfl) ?_
  refine lv_iconst (v := (0 : Int32)) G.1.1 G.1.2.1 (dcs_get dec_X4_init_0 25 rfl) (by decide) ?_
  obtain ⟨σ23, e_σ23, hf⟩ := cL_some hf
  refine r_puti (k := 7) cls4 ct4 fi_4_7.1 fi_4_7.2 fp_4_7.1 fp_4_7.2 q_206 rfl rfl (G.gx w) w.1 k_a0.1 k_a0.2 (dcs_get dec_X4_init_0 26 rfl) (fun H locs w1 => ?_)
  have w := Wa_uI e_σ23 w w1
  refine lv_aload_n G.1.1 G.1.2.1 (dcs_get dec_X4_init_0 27 rfl) rfl (lv_at hl 0 rfl) ?_
  refine lv_iconst (v := (-1 : Int32)) G.1.1 G.1.2.1 (dcs_get dec_X4_init_0 28 rfl) (by decide) ?_
  obtain ⟨σ24, e_σ24, hf⟩ := cL_some hf
  refine r_puti (k := 8) cls4 ct4 fi_4_8.1 fi_4_8.2 fp_4_8.1 fp_4_8.2 q_207 rfl rfl (G.gx w) w.1 k_a0.1 k_a0.2 (dcs_get dec_X4_init_0 29 rfl) (fun H locs w1 => ?_)
  have w := Wa_uI e_σ24 w w1
  refine lv_aload_n G.1.1 G.1.2.1 (dcs_get dec_X4_init_0 30 rfl) rfl (lv_at hl 0 rfl) ?_
  refine lv_aload_n G.1.1 G.1.2.1 (dcs_get dec_X4_init_0 31 rfl) rfl (lv_at hl 1 rfl) ?_
  obtain ⟨σ25, e_σ25, hf⟩ := cL_some hf
  refine r_putr (k := 3) cls4 ct4 fi_4_3.1 fi_4_3.2 fp_4_3.1 fp_4_3.2 q_200 (fun _ => rfl) (fun _ => rfl) (G.gx w) w.1 k_a0.1 k_a0.2 (dcs_get dec_X4_init_0 32 rfl) (fun H locs w1 => ?_)
  have w := Wa_uP e_σ25 k_a1.1 w w1
  have e9 := Option.some.inj hf
  refine W.widen (k := 6) (n := 1216) (Nat.le_of_ble_eq_true rfl) (Nat.le_of_ble_eq_true rfl) ?_
  exact r_vretA hsz G w hm (fun h => rfl) (congrArg Prod.fst e9) (congrArg Prod.snd e9) (dcs_get dec_X4_init_0 33 rfl)
end
set_option maxRecDepth 100000 in
set_option maxHeartbeats 16000000 in
theorem C_X4_init {l : Launch} {D : va_G} {ay : Nat → ClassId} {ad : Nat → Nat} {n n' sz : Nat} {σ σ' : hSt} (hi : hInj n ad) (hR : RO n σ) (a0 : Nat) (a1 : Nat) (hf : F_X4_init a0 a1 n σ = some (n', σ')) (k_a0 : a0 < n ∧ (kC a0).1 = 4) (k_a1 : a1 < n ∧ (kC a1).1 = 7) : hMA l D ay kC n ad sz yX4_init cX4_init 2 (rmA 2 40 6 1216) [.ref (ad a0), .ref (ad a1)] σ true n' σ' 6 1216 := by
  refine hMA_in (by decide) rfl hi hR (Nat.le_of_ble_eq_true rfl) ?_
  intro p e s m below meth c hsz G hm w ls hl
  exact B_X4_init a0 a1 n σ hsz G hm hf k_a0 k_a1 w hl

/-! HillDrums.World.<init> -/
def DL_X10_init_0 : List (Nat × Instr × Nat) := [(0, .aload_n 0, 1), (1, .invokespecial 3, 3), (4, .aload_n 0, 1), (5, .iconst 0, 1), (6, .putfield 9, 3), (9, .aload_n 0, 1), (10, .iconst 0, 1), (11, .putfield 15, 3), (14, .aload_n 0, 1), (15, .iconst 0, 1), (16, .putfield 18, 3), (19, .aload_n 0, 1), (20, .iconst 0, 1), (21, .putfield 21, 3), (24, .aload_n 0, 1), (25, .iconst 0, 1), (26, .putfield 24, 3), (29, .aload_n 0, 1), (30, .iconst 0, 1), (31, .putfield 27, 3), (34, .aload_n 0, 1), (35, .iconst 0, 1), (36, .putfield 30, 3), (39, .aload_n 0, 1), (40, .iconst 0, 1), (41, .putfield 33, 3), (44, .aload_n 0, 1), (45, .iconst 0, 1), (46, .putfield 36, 3), (49, .aload_n 0, 1), (50, .bipush 24, 2), (52, .newarray .int, 2), (54, .putfield 39, 3), (57, .aload_n 0, 1), (58, .bipush 24, 2), (60, .newarray .int, 2), (62, .putfield 43, 3), (65, .aload_n 0, 1), (66, .bipush 60, 2), (68, .newarray .int, 2)]
set_option maxRecDepth 100000 in
theorem dec_X10_init_0 : dcs cX10_init DL_X10_init_0 = true := by decide +kernel
def DL_X10_init_1 : List (Nat × Instr × Nat) := [(70, .putfield 46, 3), (73, .return_, 1)]
set_option maxRecDepth 100000 in
theorem dec_X10_init_1 : dcs cX10_init DL_X10_init_1 = true := by decide +kernel
theorem lb_X10_init : lkB yX10_init cX10_init 1 (none) 0 := ⟨q_231, q_8, ⟨by decide, by decide⟩, by decide +kernel⟩
set_option maxRecDepth 100000 in
def F_X10_init (a0 : Nat) (n : Nat) (σ : hSt) : Option (Nat × hSt) :=
cL (uI σ a0 0 (0 : Int32)) fun σ1 =>
cL (uI σ1 a0 1 (0 : Int32)) fun σ2 =>
cL (uI σ2 a0 2 (0 : Int32)) fun σ3 =>
cL (uI σ3 a0 3 (0 : Int32)) fun σ4 =>
cL (uI σ4 a0 4 (0 : Int32)) fun σ5 =>
cL (uI σ5 a0 5 (0 : Int32)) fun σ6 =>
cL (uI σ6 a0 6 (0 : Int32)) fun σ7 =>
cL (uI σ7 a0 7 (0 : Int32)) fun σ8 =>
cL (uI σ8 a0 8 (0 : Int32)) fun σ9 =>
cG (kC n == (101, 24)) <|
cL (zO σ9 n) fun σ11 =>
cL (n + 1) fun n12 =>
cL (uP σ11 a0 9 (some n)) fun σ14 =>
cG (kC n12 == (101, 24)) <|
cL (zO σ14 n12) fun σ16 =>
cL (n12 + 1) fun n17 =>
cL (uP σ16 a0 10 (some n12)) fun σ19 =>
cG (kC n17 == (101, 60)) <|
cL (zO σ19 n17) fun σ21 =>
cL (n17 + 1) fun n22 =>
cL (uP σ21 a0 11 (some n17)) fun σ24 =>
some (n22, σ24)
section
variable {p : Program} {l : Launch} {e : Env} {s : State} {m : MethodId} {args : Array Value} {below : List Frame} {meth : Method} {c : Code} {D : va_G} {ay : Nat → ClassId} {ad : Nat → Nat}
set_option maxRecDepth 100000 in
set_option maxHeartbeats 16000000 in
theorem B_X10_init {n0 : Nat} {ad0 : Nat → Nat} {sz n' : Nat} {σ' : hSt} {H : Heap} {locs : List Loc} {ls : Array Slot} (a0 : Nat) (n : Nat) (σ : hSt) (hsz : s.heap.size = sz) (G : Gy p m c cX10_init 1 s args RX10 D ay (aZ n0 ad0 sz)) (hm : meth.sig.returnType = none ∧ meth.locks = false ∧ meth.name = "<init>") (hf : F_X10_init a0 n σ = some (n', σ')) (k_a0 : a0 < n ∧ (kC a0).1 = 10) (w : Wa D ay kC n0 ad0 true n ad (aZ n0 ad0 sz) s σ H locs) (hl : lv_has ls 1 [(0, .ref (ad a0))]) : W p l e (rmA 1 20 3 108) s m args below meth c H locs 0 0 (MQ below (cA D ay kC n0 ad0 sz true n' σ') args s 3 108 (aZ n0 ad0 sz)) (F0 m 0 ls []) := by
  unfold F_X10_init at hf
  refine lv_aload_n G.1.1 G.1.2.1 (dcs_get dec_X10_init_0 0 rfl) rfl (lv_at hl 0 rfl) ?_
  refine r_objI q_232 q_29 q_30 ⟨Nat.le_of_ble_eq_true rfl, Nat.le_of_ble_eq_true rfl⟩ G hl.1 (dcs_get dec_X10_init_0 1 rfl) ?_
  refine lv_aload_n G.1.1 G.1.2.1 (dcs_get dec_X10_init_0 2 rfl) rfl (lv_at hl 0 rfl) ?_
  refine lv_iconst (v := (0 : Int32)) G.1.1 G.1.2.1 (dcs_get dec_X10_init_0 3 rfl) (by decide) ?_
  obtain ⟨σ1, e_σ1, hf⟩ := cL_some hf
  refine r_puti (k := 0) cls10 ct10 fi_10_0.1 fi_10_0.2 fp_10_0.1 fp_10_0.2 q_233 rfl rfl (G.gx w) w.1 k_a0.1 k_a0.2 (dcs_get dec_X10_init_0 4 rfl) (fun H locs w1 => ?_)
  have w := Wa_uI e_σ1 w w1
  refine lv_aload_n G.1.1 G.1.2.1 (dcs_get dec_X10_init_0 5 rfl) rfl (lv_at hl 0 rfl) ?_
  refine lv_iconst (v := (0 : Int32)) G.1.1 G.1.2.1 (dcs_get dec_X10_init_0 6 rfl) (by decide) ?_
  obtain ⟨σ2, e_σ2, hf⟩ := cL_some hf
  refine r_puti (k := 1) cls10 ct10 fi_10_1.1 fi_10_1.2 fp_10_1.1 fp_10_1.2 q_237 rfl rfl (G.gx w) w.1 k_a0.1 k_a0.2 (dcs_get dec_X10_init_0 7 rfl) (fun H locs w1 => ?_)
  have w := Wa_uI e_σ2 w w1
  refine lv_aload_n G.1.1 G.1.2.1 (dcs_get dec_X10_init_0 8 rfl) rfl (lv_at hl 0 rfl) ?_
  refine lv_iconst (v := (0 : Int32)) G.1.1 G.1.2.1 (dcs_get dec_X10_init_0 9 rfl) (by decide) ?_
  obtain ⟨σ3, e_σ3, hf⟩ := cL_some hf
  refine r_puti (k := 2) cls10 ct10 fi_10_2.1 fi_10_2.2 fp_10_2.1 fp_10_2.2 q_240 rfl rfl (G.gx w) w.1 k_a0.1 k_a0.2 (dcs_get dec_X10_init_0 10 rfl) (fun H locs w1 => ?_)
  have w := Wa_uI e_σ3 w w1
  refine lv_aload_n G.1.1 G.1.2.1 (dcs_get dec_X10_init_0 11 rfl) rfl (lv_at hl 0 rfl) ?_
  refine lv_iconst (v := (0 : Int32)) G.1.1 G.1.2.1 (dcs_get dec_X10_init_0 12 rfl) (by decide) ?_
  obtain ⟨σ4, e_σ4, hf⟩ := cL_some hf
  refine r_puti (k := 3) cls10 ct10 fi_10_3.1 fi_10_3.2 fp_10_3.1 fp_10_3.2 q_242 rfl rfl (G.gx w) w.1 k_a0.1 k_a0.2 (dcs_get dec_X10_init_0 13 rfl) (fun H locs w1 => ?_)
  have w := Wa_uI e_σ4 w w1
  refine lv_aload_n G.1.1 G.1.2.1 (dcs_get dec_X10_init_0 14 rfl) rfl (lv_at hl 0 rfl) ?_
  refine lv_iconst (v := (0 : Int32)) G.1.1 G.1.2.1 (dcs_get dec_X10_init_0 15 rfl) (by decide) ?_
  obtain ⟨σ5, e_σ5, hf⟩ := cL_some hf
  refine r_puti (k := 4) cls10 ct10 fi_10_4.1 fi_10_4.2 fp_10_4.1 fp_10_4.2 q_243 rfl rfl (G.gx w) w.1 k_a0.1 k_a0.2 (dcs_get dec_X10_init_0 16 rfl) (fun H locs w1 => ?_)
  have w := Wa_uI e_σ5 w w1
  refine lv_aload_n G.1.1 G.1.2.1 (dcs_get dec_X10_init_0 17 rfl) rfl (lv_at hl 0 rfl) ?_
  refine lv_iconst (v := (0 : Int32)) G.1.1 G.1.2.1 (dcs_get dec_X10_init_0 18 rfl) (by decide) ?_
  obtain ⟨σ6, e_σ6, hf⟩ := cL_some hf
  refine r_puti (k := 5) cls10 ct10 fi_10_5.1 fi_10_5.2 fp_10_5.1 fp_10_5.2 q_244 rfl rfl (G.gx w) w.1 k_a0.1 k_a0.2 (dcs_get dec_X10_init_0 19 rfl) (fun H locs w1 => ?_)
  have w := Wa_uI e_σ6 w w1
  refine lv_aload_n G.1.1 G.1.2.1 (dcs_get dec_X10_init_0 20 rfl) rfl (lv_at hl 0 rfl) ?_
  refine lv_iconst (v := (0 : Int32)) G.1.1 G.1.2.1 (dcs_get dec_X10_init_0 21 rfl) (by decide) ?_
  obtain ⟨σ7, e_σ7, hf⟩ := cL_some hf
  refine r_puti (k := 6) cls10 ct10 fi_10_6.1 fi_10_6.2 fp_10_6.1 fp_10_6.2 q_245 rfl rfl (G.gx w) w.1 k_a0.1 k_a0.2 (dcs_get dec_X10_init_0 22 rfl) (fun H locs w1 => ?_)
  have w := Wa_uI e_σ7 w w1
  refine lv_aload_n G.1.1 G.1.2.1 (dcs_get dec_X10_init_0 23 rfl) rfl (lv_at hl 0 rfl) ?_
  refine lv_iconst (v := (0 : Int32)) G.1.1 G.1.2.1 (dcs_get dec_X10_init_0 24 rfl) (by decide) ?_
  obtain ⟨σ8, e_σ8, hf⟩ := cL_some hf
  refine r_puti (k := 7) cls10 ct10 fi_10_7.1 fi_10_7.2 fp_10_7.1 fp_10_7.2 q_246 rfl rfl (G.gx w) w.1 k_a0.1 k_a0.2 (dcs_get dec_X10_init_0 25 rfl) (fun H locs w1 => ?_)
  have w := Wa_uI e_σ8 w w1
  refine lv_aload_n G.1.1 G.1.2.1 (dcs_get dec_X10_init_0 26 rfl) rfl (lv_at hl 0 rfl) ?_
  refine lv_iconst (v := (0 : Int32)) G.1.1 G.1.2.1 (dcs_get dec_X10_init_0 27 rfl) (by decide) ?_
  obtain ⟨σ9, e_σ9, hf⟩ := cL_some hf
  refine r_puti (k := 8) cls10 ct10 fi_10_8.1 fi_10_8.2 fp_10_8.1 fp_10_8.2 q_248 rfl rfl (G.gx w) w.1 k_a0.1 k_a0.2 (dcs_get dec_X10_init_0 28 rfl) (fun H locs w1 => ?_)
  have w := Wa_uI e_σ9 w w1
  refine lv_aload_n G.1.1 G.1.2.1 (dcs_get dec_X10_init_0 29 rfl) rfl (lv_at hl 0 rfl) ?_
  refine lv_bipush (v := (24 : Int32)) G.1.1 G.1.2.1 (dcs_get dec_X10_init_0 30 rfl) (by decide) ?_
  obtain ⟨h10, hf⟩ := cG_some hf
  obtain ⟨σ11, e_σ11, hf⟩ := cL_some hf
  obtain ⟨n12, e_n12, hf⟩ := cL_some hf
  refine r_newI (N := 24) (t0 := 1) (ty := .int) ⟨by decide, by decide⟩ (by simp) rfl q_73 (Nat.le_of_ble_eq_true rfl) G w h10 ⟨Nat.le_of_ble_eq_true rfl, Nat.le_of_ble_eq_true rfl⟩ (dcs_get dec_X10_init_0 31 rfl) (fun H ad1 e13 w => ?_)
  rw [← e13 a0 k_a0.1] at hl
  rw [← e13 a0 k_a0.1]
  have k_a0 := And.intro (Nat.lt_of_lt_of_le k_a0.1 (by omega : n ≤ n12)) k_a0.2
  have k_n : n < n12 ∧ (kC n).1 = 101 := ⟨by omega, by rw [eq_of_beq h10]⟩
  have w := Wa_nm e_n12 e_σ11 w
  generalize ad1 = ad at hl w ⊢
  clear e13
  obtain ⟨σ14, e_σ14, hf⟩ := cL_some hf
  refine r_putrF (k := 9) cls10 ctf10 fi_10_9.1 fi_10_9.2 rfl rfl (ctf10.1 9 fi_10_9.1) q_250 (fun _ => rfl) (fun _ => rfl) hm.2.2 (G.gx w) w.1 k_a0.1 k_a0.2 (dcs_get dec_X10_init_0 32 rfl) (fun H locs w1 => ?_)
  have w := Wa_uP e_σ14 k_n.1 w w1
  refine lv_aload_n G.1.1 G.1.2.1 (dcs_get dec_X10_init_0 33 rfl) rfl (lv_at hl 0 rfl) ?_
  refine lv_bipush (v := (24 : Int32)) G.1.1 G.1.2.1 (dcs_get dec_X10_init_0 34 rfl) (by decide) ?_
  obtain ⟨h15, hf⟩ := cG_some hf
  obtain ⟨σ16, e_σ16, hf⟩ := cL_some hf
  obtain ⟨n17, e_n17, hf⟩ := cL_some hf
  refine r_newI (N := 24) (t0 := 1) (ty := .int) ⟨by decide, by decide⟩ (by simp) rfl q_73 (Nat.le_of_ble_eq_true rfl) G w h15 ⟨Nat.le_of_ble_eq_true rfl, Nat.le_of_ble_eq_true rfl⟩ (dcs_get dec_X10_init_0 35 rfl) (fun H ad1 e18 w => ?_)
  rw [← e18 a0 k_a0.1] at hl
  rw [← e18 a0 k_a0.1]
  have k_a0 := And.intro (Nat.lt_of_lt_of_le k_a0.1 (by omega : n12 ≤ n17)) k_a0.2
  have k_n12 : n12 < n17 ∧ (kC n12).1 = 101 := ⟨by omega, by rw [eq_of_beq h15]⟩
  have w := Wa_nm e_n17 e_σ16 w
  generalize ad1 = ad at hl w ⊢
  clear e18
  obtain ⟨σ19, e_σ19, hf⟩ := cL_some hf
  refine r_putrF (k := 10) cls10 ctf10 fi_10_10.1 fi_10_10.2 rfl rfl (ctf10.1 10 fi_10_10.1) q_253 (fun _ => rfl) (fun _ => rfl) hm.2.2 (G.gx w) w.1 k_a0.1 k_a0.2 (dcs_get dec_X10_init_0 36 rfl) (fun H locs w1 => ?_)
  have w := Wa_uP e_σ19 k_n12.1 w w1
  refine lv_aload_n G.1.1 G.1.2.1 (dcs_get dec_X10_init_0 37 rfl) rfl (lv_at hl 0 rfl) ?_
  refine lv_bipush (v := (60 : Int32)) G.1.1 G.1.2.1 (dcs_get dec_X10_init_0 38 rfl) (by decide) ?_
  obtain ⟨h20, hf⟩ := cG_some hf
  obtain ⟨σ21, e_σ21, hf⟩ := cL_some hf
  obtain ⟨n22, e_n22, hf⟩ := cL_some hf
  refine r_newI (N := 60) (t0 := 1) (ty := .int) ⟨by decide, by decide⟩ (by simp) rfl q_73 (Nat.le_of_ble_eq_true rfl) G w h20 ⟨Nat.le_of_ble_eq_true rfl, Nat.le_of_ble_eq_true rfl⟩ (dcs_get dec_X10_init_0 39 rfl) (fun H ad1 e23 w => ?_)
  rw [← e23 a0 k_a0.1] at hl
  rw [← e23 a0 k_a0.1]
  have k_a0 := And.intro (Nat.lt_of_lt_of_le k_a0.1 (by omega : n17 ≤ n22)) k_a0.2
  have k_n17 : n17 < n22 ∧ (kC n17).1 = 101 := ⟨by omega, by rw [eq_of_beq h20]⟩
  have w := Wa_nm e_n22 e_σ21 w
  generalize ad1 = ad at hl w ⊢
  clear e23
  obtain ⟨σ24, e_σ24, hf⟩ := cL_some hf
  refine r_putrF (k := 11) cls10 ctf10 fi_10_11.1 fi_10_11.2 rfl rfl (ctf10.1 11 fi_10_11.1) q_255 (fun _ => rfl) (fun _ => rfl) hm.2.2 (G.gx w) w.1 k_a0.1 k_a0.2 (dcs_get dec_X10_init_1 0 rfl) (fun H locs w1 => ?_)
  have w := Wa_uP e_σ24 k_n17.1 w w1
  have e9 := Option.some.inj hf
  refine W.widen (k := 3) (n := 108) (Nat.le_of_ble_eq_true rfl) (Nat.le_of_ble_eq_true rfl) ?_
  exact r_vretA hsz G w hm (fun h => rfl) (congrArg Prod.fst e9) (congrArg Prod.snd e9) (dcs_get dec_X10_init_1 1 rfl)
end
set_option maxRecDepth 100000 in
set_option maxHeartbeats 16000000 in
theorem C_X10_init {l : Launch} {D : va_G} {ay : Nat → ClassId} {ad : Nat → Nat} {n n' sz : Nat} {σ σ' : hSt} (hi : hInj n ad) (hR : RO n σ) (a0 : Nat) (hf : F_X10_init a0 n σ = some (n', σ')) (k_a0 : a0 < n ∧ (kC a0).1 = 10) : hMA l D ay kC n ad sz yX10_init cX10_init 1 (rmA 1 20 3 108) [.ref (ad a0)] σ true n' σ' 3 108 := by
  refine hMA_in (by decide) rfl hi hR (Nat.le_of_ble_eq_true rfl) ?_
  intro p e s m below meth c hsz G hm w ls hl
  exact B_X10_init a0 n σ hsz G hm hf k_a0 w hl

/-! HillDrums.Past.<init> -/
def DL_X2_init_0 : List (Nat × Instr × Nat) := [(0, .aload_n 0, 1), (1, .invokespecial 3, 3), (4, .aload_n 0, 1), (5, .bipush 40, 2), (7, .anewarray 9, 3), (10, .putfield 11, 3), (13, .aload_n 0, 1), (14, .iconst 0, 1), (15, .putfield 17, 3), (18, .aload_n 0, 1), (19, .iconst 0, 1), (20, .putfield 21, 3), (23, .iconst 0, 1), (24, .istore_n 1, 1), (25, .iload_n 1, 1), (26, .bipush 40, 2), (28, .if_icmp .ge 22, 3), (31, .aload_n 0, 1), (32, .getfield 11, 3), (35, .iload_n 1, 1), (36, .new 9, 3), (39, .dup, 1), (40, .invokespecial 24, 3), (43, .aastore, 1), (44, .iinc 1 1, 3), (47, .goto (-22), 3), (50, .return_, 1)]
set_option maxRecDepth 100000 in
theorem dec_X2_init_0 : dcs cX2_init DL_X2_init_0 = true := by decide +kernel
theorem lb_X2_init : lkB yX2_init cX2_init 2 (none) 0 := ⟨q_286, q_9, ⟨by decide, by decide⟩, by decide +kernel⟩
set_option maxRecDepth 100000 in
def F_X2_init (a0 : Nat) (n : Nat) (σ : hSt) : Option (Nat × hSt) :=
cG (kC n == (105, 40)) <|
cL (zO σ n) fun σ2 =>
cL (n + 1) fun n3 =>
cL (uP σ2 a0 0 (some n)) fun σ5 =>
cL (uI σ5 a0 1 (0 : Int32)) fun σ6 =>
cL (uI σ6 a0 2 (0 : Int32)) fun σ7 =>
cR (σ7.2.2 a0 0) (okr kC n3 105) fun z8 =>
cG (kC n3 == (10, 0)) <|
cL (zO σ7 n3) fun σ10 =>
cL (n3 + 1) fun n11 =>
cC (F_X10_init n3 n11 σ10) fun n15 σ14 =>
cG (inb (0 : Int32) (kC z8).2) <|
cL (uP σ14 z8 (0 : Int32).toNatClampNeg (some n3)) fun σ18 =>
cR (σ18.2.2 a0 0) (okr kC n15 105) fun z19 =>
cG (kC n15 == (10, 0)) <|
cL (zO σ18 n15) fun σ21 =>
cL (n15 + 1) fun n22 =>
cC (F_X10_init n15 n22 σ21) fun n26 σ25 =>
cG (inb (1 : Int32) (kC z19).2) <|
cL (uP σ25 z19 (1 : Int32).toNatClampNeg (some n15)) fun σ29 =>
cR (σ29.2.2 a0 0) (okr kC n26 105) fun z30 =>
cG (kC n26 == (10, 0)) <|
cL (zO σ29 n26) fun σ32 =>
cL (n26 + 1) fun n33 =>
cC (F_X10_init n26 n33 σ32) fun n37 σ36 =>
cG (inb (2 : Int32) (kC z30).2) <|
cL (uP σ36 z30 (2 : Int32).toNatClampNeg (some n26)) fun σ40 =>
cR (σ40.2.2 a0 0) (okr kC n37 105) fun z41 =>
cG (kC n37 == (10, 0)) <|
cL (zO σ40 n37) fun σ43 =>
cL (n37 + 1) fun n44 =>
cC (F_X10_init n37 n44 σ43) fun n48 σ47 =>
cG (inb (3 : Int32) (kC z41).2) <|
cL (uP σ47 z41 (3 : Int32).toNatClampNeg (some n37)) fun σ51 =>
cR (σ51.2.2 a0 0) (okr kC n48 105) fun z52 =>
cG (kC n48 == (10, 0)) <|
cL (zO σ51 n48) fun σ54 =>
cL (n48 + 1) fun n55 =>
cC (F_X10_init n48 n55 σ54) fun n59 σ58 =>
cG (inb (4 : Int32) (kC z52).2) <|
cL (uP σ58 z52 (4 : Int32).toNatClampNeg (some n48)) fun σ62 =>
cR (σ62.2.2 a0 0) (okr kC n59 105) fun z63 =>
cG (kC n59 == (10, 0)) <|
cL (zO σ62 n59) fun σ65 =>
cL (n59 + 1) fun n66 =>
cC (F_X10_init n59 n66 σ65) fun n70 σ69 =>
cG (inb (5 : Int32) (kC z63).2) <|
cL (uP σ69 z63 (5 : Int32).toNatClampNeg (some n59)) fun σ73 =>
cR (σ73.2.2 a0 0) (okr kC n70 105) fun z74 =>
cG (kC n70 == (10, 0)) <|
cL (zO σ73 n70) fun σ76 =>
cL (n70 + 1) fun n77 =>
cC (F_X10_init n70 n77 σ76) fun n81 σ80 =>
cG (inb (6 : Int32) (kC z74).2) <|
cL (uP σ80 z74 (6 : Int32).toNatClampNeg (some n70)) fun σ84 =>
cR (σ84.2.2 a0 0) (okr kC n81 105) fun z85 =>
cG (kC n81 == (10, 0)) <|
cL (zO σ84 n81) fun σ87 =>
cL (n81 + 1) fun n88 =>
cC (F_X10_init n81 n88 σ87) fun n92 σ91 =>
cG (inb (7 : Int32) (kC z85).2) <|
cL (uP σ91 z85 (7 : Int32).toNatClampNeg (some n81)) fun σ95 =>
cR (σ95.2.2 a0 0) (okr kC n92 105) fun z96 =>
cG (kC n92 == (10, 0)) <|
cL (zO σ95 n92) fun σ98 =>
cL (n92 + 1) fun n99 =>
cC (F_X10_init n92 n99 σ98) fun n103 σ102 =>
cG (inb (8 : Int32) (kC z96).2) <|
cL (uP σ102 z96 (8 : Int32).toNatClampNeg (some n92)) fun σ106 =>
cR (σ106.2.2 a0 0) (okr kC n103 105) fun z107 =>
cG (kC n103 == (10, 0)) <|
cL (zO σ106 n103) fun σ109 =>
cL (n103 + 1) fun n110 =>
cC (F_X10_init n103 n110 σ109) fun n114 σ113 =>
cG (inb (9 : Int32) (kC z107).2) <|
cL (uP σ113 z107 (9 : Int32).toNatClampNeg (some n103)) fun σ117 =>
cR (σ117.2.2 a0 0) (okr kC n114 105) fun z118 =>
cG (kC n114 == (10, 0)) <|
cL (zO σ117 n114) fun σ120 =>
cL (n114 + 1) fun n121 =>
cC (F_X10_init n114 n121 σ120) fun n125 σ124 =>
cG (inb (10 : Int32) (kC z118).2) <|
cL (uP σ124 z118 (10 : Int32).toNatClampNeg (some n114)) fun σ128 =>
cR (σ128.2.2 a0 0) (okr kC n125 105) fun z129 =>
cG (kC n125 == (10, 0)) <|
cL (zO σ128 n125) fun σ131 =>
cL (n125 + 1) fun n132 =>
cC (F_X10_init n125 n132 σ131) fun n136 σ135 =>
cG (inb (11 : Int32) (kC z129).2) <|
cL (uP σ135 z129 (11 : Int32).toNatClampNeg (some n125)) fun σ139 =>
cR (σ139.2.2 a0 0) (okr kC n136 105) fun z140 =>
cG (kC n136 == (10, 0)) <|
cL (zO σ139 n136) fun σ142 =>
cL (n136 + 1) fun n143 =>
cC (F_X10_init n136 n143 σ142) fun n147 σ146 =>
cG (inb (12 : Int32) (kC z140).2) <|
cL (uP σ146 z140 (12 : Int32).toNatClampNeg (some n136)) fun σ150 =>
cR (σ150.2.2 a0 0) (okr kC n147 105) fun z151 =>
cG (kC n147 == (10, 0)) <|
cL (zO σ150 n147) fun σ153 =>
cL (n147 + 1) fun n154 =>
cC (F_X10_init n147 n154 σ153) fun n158 σ157 =>
cG (inb (13 : Int32) (kC z151).2) <|
cL (uP σ157 z151 (13 : Int32).toNatClampNeg (some n147)) fun σ161 =>
cR (σ161.2.2 a0 0) (okr kC n158 105) fun z162 =>
cG (kC n158 == (10, 0)) <|
cL (zO σ161 n158) fun σ164 =>
cL (n158 + 1) fun n165 =>
cC (F_X10_init n158 n165 σ164) fun n169 σ168 =>
cG (inb (14 : Int32) (kC z162).2) <|
cL (uP σ168 z162 (14 : Int32).toNatClampNeg (some n158)) fun σ172 =>
cR (σ172.2.2 a0 0) (okr kC n169 105) fun z173 =>
cG (kC n169 == (10, 0)) <|
cL (zO σ172 n169) fun σ175 =>
cL (n169 + 1) fun n176 =>
cC (F_X10_init n169 n176 σ175) fun n180 σ179 =>
cG (inb (15 : Int32) (kC z173).2) <|
cL (uP σ179 z173 (15 : Int32).toNatClampNeg (some n169)) fun σ183 =>
cR (σ183.2.2 a0 0) (okr kC n180 105) fun z184 =>
cG (kC n180 == (10, 0)) <|
cL (zO σ183 n180) fun σ186 =>
cL (n180 + 1) fun n187 =>
cC (F_X10_init n180 n187 σ186) fun n191 σ190 =>
cG (inb (16 : Int32) (kC z184).2) <|
cL (uP σ190 z184 (16 : Int32).toNatClampNeg (some n180)) fun σ194 =>
cR (σ194.2.2 a0 0) (okr kC n191 105) fun z195 =>
cG (kC n191 == (10, 0)) <|
cL (zO σ194 n191) fun σ197 =>
cL (n191 + 1) fun n198 =>
cC (F_X10_init n191 n198 σ197) fun n202 σ201 =>
cG (inb (17 : Int32) (kC z195).2) <|
cL (uP σ201 z195 (17 : Int32).toNatClampNeg (some n191)) fun σ205 =>
cR (σ205.2.2 a0 0) (okr kC n202 105) fun z206 =>
cG (kC n202 == (10, 0)) <|
cL (zO σ205 n202) fun σ208 =>
cL (n202 + 1) fun n209 =>
cC (F_X10_init n202 n209 σ208) fun n213 σ212 =>
cG (inb (18 : Int32) (kC z206).2) <|
cL (uP σ212 z206 (18 : Int32).toNatClampNeg (some n202)) fun σ216 =>
cR (σ216.2.2 a0 0) (okr kC n213 105) fun z217 =>
cG (kC n213 == (10, 0)) <|
cL (zO σ216 n213) fun σ219 =>
cL (n213 + 1) fun n220 =>
cC (F_X10_init n213 n220 σ219) fun n224 σ223 =>
cG (inb (19 : Int32) (kC z217).2) <|
cL (uP σ223 z217 (19 : Int32).toNatClampNeg (some n213)) fun σ227 =>
cR (σ227.2.2 a0 0) (okr kC n224 105) fun z228 =>
cG (kC n224 == (10, 0)) <|
cL (zO σ227 n224) fun σ230 =>
cL (n224 + 1) fun n231 =>
cC (F_X10_init n224 n231 σ230) fun n235 σ234 =>
cG (inb (20 : Int32) (kC z228).2) <|
cL (uP σ234 z228 (20 : Int32).toNatClampNeg (some n224)) fun σ238 =>
cR (σ238.2.2 a0 0) (okr kC n235 105) fun z239 =>
cG (kC n235 == (10, 0)) <|
cL (zO σ238 n235) fun σ241 =>
cL (n235 + 1) fun n242 =>
cC (F_X10_init n235 n242 σ241) fun n246 σ245 =>
cG (inb (21 : Int32) (kC z239).2) <|
cL (uP σ245 z239 (21 : Int32).toNatClampNeg (some n235)) fun σ249 =>
cR (σ249.2.2 a0 0) (okr kC n246 105) fun z250 =>
cG (kC n246 == (10, 0)) <|
cL (zO σ249 n246) fun σ252 =>
cL (n246 + 1) fun n253 =>
cC (F_X10_init n246 n253 σ252) fun n257 σ256 =>
cG (inb (22 : Int32) (kC z250).2) <|
cL (uP σ256 z250 (22 : Int32).toNatClampNeg (some n246)) fun σ260 =>
cR (σ260.2.2 a0 0) (okr kC n257 105) fun z261 =>
cG (kC n257 == (10, 0)) <|
cL (zO σ260 n257) fun σ263 =>
cL (n257 + 1) fun n264 =>
cC (F_X10_init n257 n264 σ263) fun n268 σ267 =>
cG (inb (23 : Int32) (kC z261).2) <|
cL (uP σ267 z261 (23 : Int32).toNatClampNeg (some n257)) fun σ271 =>
cR (σ271.2.2 a0 0) (okr kC n268 105) fun z272 =>
cG (kC n268 == (10, 0)) <|
cL (zO σ271 n268) fun σ274 =>
cL (n268 + 1) fun n275 =>
cC (F_X10_init n268 n275 σ274) fun n279 σ278 =>
cG (inb (24 : Int32) (kC z272).2) <|
cL (uP σ278 z272 (24 : Int32).toNatClampNeg (some n268)) fun σ282 =>
cR (σ282.2.2 a0 0) (okr kC n279 105) fun z283 =>
cG (kC n279 == (10, 0)) <|
cL (zO σ282 n279) fun σ285 =>
cL (n279 + 1) fun n286 =>
cC (F_X10_init n279 n286 σ285) fun n290 σ289 =>
cG (inb (25 : Int32) (kC z283).2) <|
cL (uP σ289 z283 (25 : Int32).toNatClampNeg (some n279)) fun σ293 =>
cR (σ293.2.2 a0 0) (okr kC n290 105) fun z294 =>
cG (kC n290 == (10, 0)) <|
cL (zO σ293 n290) fun σ296 =>
cL (n290 + 1) fun n297 =>
cC (F_X10_init n290 n297 σ296) fun n301 σ300 =>
cG (inb (26 : Int32) (kC z294).2) <|
cL (uP σ300 z294 (26 : Int32).toNatClampNeg (some n290)) fun σ304 =>
cR (σ304.2.2 a0 0) (okr kC n301 105) fun z305 =>
cG (kC n301 == (10, 0)) <|
cL (zO σ304 n301) fun σ307 =>
cL (n301 + 1) fun n308 =>
cC (F_X10_init n301 n308 σ307) fun n312 σ311 =>
cG (inb (27 : Int32) (kC z305).2) <|
cL (uP σ311 z305 (27 : Int32).toNatClampNeg (some n301)) fun σ315 =>
cR (σ315.2.2 a0 0) (okr kC n312 105) fun z316 =>
cG (kC n312 == (10, 0)) <|
cL (zO σ315 n312) fun σ318 =>
cL (n312 + 1) fun n319 =>
cC (F_X10_init n312 n319 σ318) fun n323 σ322 =>
cG (inb (28 : Int32) (kC z316).2) <|
cL (uP σ322 z316 (28 : Int32).toNatClampNeg (some n312)) fun σ326 =>
cR (σ326.2.2 a0 0) (okr kC n323 105) fun z327 =>
cG (kC n323 == (10, 0)) <|
cL (zO σ326 n323) fun σ329 =>
cL (n323 + 1) fun n330 =>
cC (F_X10_init n323 n330 σ329) fun n334 σ333 =>
cG (inb (29 : Int32) (kC z327).2) <|
cL (uP σ333 z327 (29 : Int32).toNatClampNeg (some n323)) fun σ337 =>
cR (σ337.2.2 a0 0) (okr kC n334 105) fun z338 =>
cG (kC n334 == (10, 0)) <|
cL (zO σ337 n334) fun σ340 =>
cL (n334 + 1) fun n341 =>
cC (F_X10_init n334 n341 σ340) fun n345 σ344 =>
cG (inb (30 : Int32) (kC z338).2) <|
cL (uP σ344 z338 (30 : Int32).toNatClampNeg (some n334)) fun σ348 =>
cR (σ348.2.2 a0 0) (okr kC n345 105) fun z349 =>
cG (kC n345 == (10, 0)) <|
cL (zO σ348 n345) fun σ351 =>
cL (n345 + 1) fun n352 =>
cC (F_X10_init n345 n352 σ351) fun n356 σ355 =>
cG (inb (31 : Int32) (kC z349).2) <|
cL (uP σ355 z349 (31 : Int32).toNatClampNeg (some n345)) fun σ359 =>
cR (σ359.2.2 a0 0) (okr kC n356 105) fun z360 =>
cG (kC n356 == (10, 0)) <|
cL (zO σ359 n356) fun σ362 =>
cL (n356 + 1) fun n363 =>
cC (F_X10_init n356 n363 σ362) fun n367 σ366 =>
cG (inb (32 : Int32) (kC z360).2) <|
cL (uP σ366 z360 (32 : Int32).toNatClampNeg (some n356)) fun σ370 =>
cR (σ370.2.2 a0 0) (okr kC n367 105) fun z371 =>
cG (kC n367 == (10, 0)) <|
cL (zO σ370 n367) fun σ373 =>
cL (n367 + 1) fun n374 =>
cC (F_X10_init n367 n374 σ373) fun n378 σ377 =>
cG (inb (33 : Int32) (kC z371).2) <|
cL (uP σ377 z371 (33 : Int32).toNatClampNeg (some n367)) fun σ381 =>
cR (σ381.2.2 a0 0) (okr kC n378 105) fun z382 =>
cG (kC n378 == (10, 0)) <|
cL (zO σ381 n378) fun σ384 =>
cL (n378 + 1) fun n385 =>
cC (F_X10_init n378 n385 σ384) fun n389 σ388 =>
cG (inb (34 : Int32) (kC z382).2) <|
cL (uP σ388 z382 (34 : Int32).toNatClampNeg (some n378)) fun σ392 =>
cR (σ392.2.2 a0 0) (okr kC n389 105) fun z393 =>
cG (kC n389 == (10, 0)) <|
cL (zO σ392 n389) fun σ395 =>
cL (n389 + 1) fun n396 =>
cC (F_X10_init n389 n396 σ395) fun n400 σ399 =>
cG (inb (35 : Int32) (kC z393).2) <|
cL (uP σ399 z393 (35 : Int32).toNatClampNeg (some n389)) fun σ403 =>
cR (σ403.2.2 a0 0) (okr kC n400 105) fun z404 =>
cG (kC n400 == (10, 0)) <|
cL (zO σ403 n400) fun σ406 =>
cL (n400 + 1) fun n407 =>
cC (F_X10_init n400 n407 σ406) fun n411 σ410 =>
cG (inb (36 : Int32) (kC z404).2) <|
cL (uP σ410 z404 (36 : Int32).toNatClampNeg (some n400)) fun σ414 =>
cR (σ414.2.2 a0 0) (okr kC n411 105) fun z415 =>
cG (kC n411 == (10, 0)) <|
cL (zO σ414 n411) fun σ417 =>
cL (n411 + 1) fun n418 =>
cC (F_X10_init n411 n418 σ417) fun n422 σ421 =>
cG (inb (37 : Int32) (kC z415).2) <|
cL (uP σ421 z415 (37 : Int32).toNatClampNeg (some n411)) fun σ425 =>
cR (σ425.2.2 a0 0) (okr kC n422 105) fun z426 =>
cG (kC n422 == (10, 0)) <|
cL (zO σ425 n422) fun σ428 =>
cL (n422 + 1) fun n429 =>
cC (F_X10_init n422 n429 σ428) fun n433 σ432 =>
cG (inb (38 : Int32) (kC z426).2) <|
cL (uP σ432 z426 (38 : Int32).toNatClampNeg (some n422)) fun σ436 =>
cR (σ436.2.2 a0 0) (okr kC n433 105) fun z437 =>
cG (kC n433 == (10, 0)) <|
cL (zO σ436 n433) fun σ439 =>
cL (n433 + 1) fun n440 =>
cC (F_X10_init n433 n440 σ439) fun n444 σ443 =>
cG (inb (39 : Int32) (kC z437).2) <|
cL (uP σ443 z437 (39 : Int32).toNatClampNeg (some n433)) fun σ447 =>
some (n444, σ447)
section
variable {p : Program} {l : Launch} {e : Env} {s : State} {m : MethodId} {args : Array Value} {below : List Frame} {meth : Method} {c : Code} {D : va_G} {ay : Nat → ClassId} {ad : Nat → Nat}
set_option maxRecDepth 100000 in
set_option maxHeartbeats 16000000 in
theorem B_X2_init {n0 : Nat} {ad0 : Nat → Nat} {sz n' : Nat} {σ' : hSt} {H : Heap} {locs : List Loc} {ls : Array Slot} (a0 : Nat) (n : Nat) (σ : hSt) (hsz : s.heap.size = sz) (G : Gy p m c cX2_init 2 s args RX2 D ay (aZ n0 ad0 sz)) (hm : meth.sig.returnType = none ∧ meth.locks = false ∧ meth.name = "<init>") (hf : F_X2_init a0 n σ = some (n', σ')) (k_a0 : a0 < n ∧ (kC a0).1 = 2) (w : Wa D ay kC n0 ad0 true n ad (aZ n0 ad0 sz) s σ H locs) (hl : lv_has ls 2 [(0, .ref (ad a0))]) : W p l e (rmA 2 40 161 4840) s m args below meth c H locs 0 0 (MQ below (cA D ay kC n0 ad0 sz true n' σ') args s 161 4840 (aZ n0 ad0 sz)) (F0 m 0 ls []) := by
  unfold F_X2_init at hf
  refine lv_aload_n G.1.1 G.1.2.1 (dcs_get dec_X2_init_0 0 rfl) rfl (lv_at hl 0 rfl) ?_
  refine r_objI q_287 q_29 q_30 ⟨Nat.le_of_ble_eq_true rfl, Nat.le_of_ble_eq_true rfl⟩ G hl.1 (dcs_get dec_X2_init_0 1 rfl) ?_
  refine lv_aload_n G.1.1 G.1.2.1 (dcs_get dec_X2_init_0 2 rfl) rfl (lv_at hl 0 rfl) ?_
  refine lv_bipush (v := (40 : Int32)) G.1.1 G.1.2.1 (dcs_get dec_X2_init_0 3 rfl) (by decide) ?_
  obtain ⟨h1, hf⟩ := cG_some hf
  obtain ⟨σ2, e_σ2, hf⟩ := cL_some hf
  obtain ⟨n3, e_n3, hf⟩ := cL_some hf
  refine r_newQ (N := 40) ⟨by decide, by decide⟩ q_288 (Nat.le_of_ble_eq_true rfl) G w h1 ⟨Nat.le_of_ble_eq_true rfl, Nat.le_of_ble_eq_true rfl⟩ (dcs_get dec_X2_init_0 4 rfl) (fun H ad1 e4 w => ?_)
  rw [← e4 a0 k_a0.1] at hl
  rw [← e4 a0 k_a0.1]
  have k_a0 := And.intro (Nat.lt_of_lt_of_le k_a0.1 (by omega : n ≤ n3)) k_a0.2
  have k_n : n < n3 ∧ (kC n).1 = 105 := ⟨by omega, by rw [eq_of_beq h1]⟩
  have w := Wa_nm e_n3 e_σ2 w
  generalize ad1 = ad at hl w ⊢
  clear e4
  obtain ⟨σ5, e_σ5, hf⟩ := cL_some hf
  refine r_putrF (k := 0) cls2 ctf2 fi_2_0.1 fi_2_0.2 rfl rfl (ctf2.1 0 fi_2_0.1) q_291 (fun _ => rfl) (fun _ => rfl) hm.2.2 (G.gx w) w.1 k_a0.1 k_a0.2 (dcs_get dec_X2_init_0 5 rfl) (fun H locs w1 => ?_)
  have w := Wa_uP e_σ5 k_n.1 w w1
  refine lv_aload_n G.1.1 G.1.2.1 (dcs_get dec_X2_init_0 6 rfl) rfl (lv_at hl 0 rfl) ?_
  refine lv_iconst (v := (0 : Int32)) G.1.1 G.1.2.1 (dcs_get dec_X2_init_0 7 rfl) (by decide) ?_
  obtain ⟨σ6, e_σ6, hf⟩ := cL_some hf
  refine r_puti (k := 1) cls2 ct2 fi_2_1.1 fi_2_1.2 fp_2_1.1 fp_2_1.2 q_292 rfl rfl (G.gx w) w.1 k_a0.1 k_a0.2 (dcs_get dec_X2_init_0 8 rfl) (fun H locs w1 => ?_)
  have w := Wa_uI e_σ6 w w1
  refine lv_aload_n G.1.1 G.1.2.1 (dcs_get dec_X2_init_0 9 rfl) rfl (lv_at hl 0 rfl) ?_
  refine lv_iconst (v := (0 : Int32)) G.1.1 G.1.2.1 (dcs_get dec_X2_init_0 10 rfl) (by decide) ?_
  obtain ⟨σ7, e_σ7, hf⟩ := cL_some hf
  refine r_puti (k := 2) cls2 ct2 fi_2_2.1 fi_2_2.2 fp_2_2.1 fp_2_2.2 q_293 rfl rfl (G.gx w) w.1 k_a0.1 k_a0.2 (dcs_get dec_X2_init_0 11 rfl) (fun H locs w1 => ?_)
  have w := Wa_uI e_σ7 w w1
  refine lv_iconst (v := (0 : Int32)) G.1.1 G.1.2.1 (dcs_get dec_X2_init_0 12 rfl) (by decide) ?_
  refine lv_istore_n (lv' := [(1, .int (0 : Int32)), (0, .ref (ad a0))]) G.1.1 G.1.2.1 (dcs_get dec_X2_init_0 13 rfl) rfl hl (by decide) rfl (fun ls hl => ?_)
  refine lv_iload_n G.1.1 G.1.2.1 (dcs_get dec_X2_init_0 14 rfl) rfl (lv_at hl 0 rfl) ?_
  refine lv_bipush (v := (40 : Int32)) G.1.1 G.1.2.1 (dcs_get dec_X2_init_0 15 rfl) (by decide) ?_
  refine lv_icmp_ge (tgt := 50) G.1.1 G.1.2.1 (dcs_get dec_X2_init_0 16 rfl) (by decide) (fun hc => absurd hc (by decide)) (fun _ => ?_)
  refine lv_aload_n G.1.1 G.1.2.1 (dcs_get dec_X2_init_0 17 rfl) rfl (lv_at hl 1 rfl) ?_
  obtain ⟨z8, e_z8, ok_z8, hf⟩ := cR_some hf
  have k_z8 := okr_in ok_z8
  refine r_getr (k := 0) cls2 fi_2_0.1 fi_2_0.2 q_291 (G.gx w) w.1 k_a0.1 k_a0.2 e_z8 (dcs_get dec_X2_init_0 18 rfl) ?_
  refine lv_iload_n G.1.1 G.1.2.1 (dcs_get dec_X2_init_0 19 rfl) rfl (lv_at hl 0 rfl) ?_
  obtain ⟨h9, hf⟩ := cG_some hf
  obtain ⟨σ10, e_σ10, hf⟩ := cL_some hf
  obtain ⟨n11, e_n11, hf⟩ := cL_some hf
  refine r_new cls10 ctf10 okt10 q_288 q_228 q_8 G w h9 ⟨Nat.le_of_ble_eq_true rfl, Nat.le_of_ble_eq_true rfl⟩ (dcs_get dec_X2_init_0 20 rfl) (fun H ad1 e12 w => ?_)
  rw [← e12 a0 k_a0.1] at hl
  rw [← e12 z8 k_z8.1]
  have k_a0 := And.intro (Nat.lt_of_lt_of_le k_a0.1 (by omega : n3 ≤ n11)) k_a0.2
  have k_z8 := And.intro (Nat.lt_of_lt_of_le k_z8.1 (by omega : n3 ≤ n11)) k_z8.2
  have k_n3 : n3 < n11 ∧ (kC n3).1 = 10 := ⟨by omega, by rw [eq_of_beq h9]⟩
  have w := Wa_nm e_n11 e_σ10 w
  generalize ad1 = ad at hl w ⊢
  clear e12
  refine lv_dup G.1.1 G.1.2.1 (dcs_get dec_X2_init_0 21 rfl) rfl ?_
  obtain ⟨n15, σ14, h13, hf⟩ := cC_some hf
  refine a_A (k_IN (As := []) (rest := [.ref (ad n3), .int (0 : Int32), .ref (ad z8)]) lb_X10_init rfl q_230 nm_290 (C_X10_init w.2.1 (w.2.2.2.2 rfl) n3 h13 k_n3) ⟨Nat.le_of_ble_eq_true rfl, Nat.le_of_ble_eq_true rfl⟩ G w rfl rfl hl.1 (Nat.le_of_ble_eq_true rfl) (dcs_get dec_X2_init_0 22 rfl) ⟨Nat.le_of_ble_eq_true rfl, Nat.le_of_ble_eq_true rfl⟩) G w (fun H locs ad1 e16 w => ?_)
  rw [← e16.2 a0 k_a0.1] at hl
  rw [← e16.2 z8 k_z8.1]
  rw [← e16.2 n3 k_n3.1]
  have k_a0 := And.intro (Nat.lt_of_lt_of_le k_a0.1 e16.1) k_a0.2
  have k_z8 := And.intro (Nat.lt_of_lt_of_le k_z8.1 e16.1) k_z8.2
  have k_n3 := And.intro (Nat.lt_of_lt_of_le k_n3.1 e16.1) k_n3.2
  generalize ad1 = ad at hl w ⊢
  clear e16
  obtain ⟨h17, hf⟩ := cG_some hf
  obtain ⟨σ18, e_σ18, hf⟩ := cL_some hf
  refine r_aast cls10 rfl (G.gx w) w.1 k_z8.1 k_z8.2 k_n3.1 k_n3.2 h17 (dcs_get dec_X2_init_0 23 rfl) (fun H locs w1 => ?_)
  have w := Wa_uP e_σ18 k_n3.1 w w1
  refine lv_iinc (v := (1 : Int32)) (lv' := [(1, .int (1 : Int32)), (0, .ref (ad a0))]) G.1.1 G.1.2.1 (dcs_get dec_X2_init_0 24 rfl) hl (k := 0) rfl (by decide) (by decide) rfl (fun ls hl => ?_)
  refine lv_goto (tgt := 25) G.1.1 G.1.2.1 (dcs_get dec_X2_init_0 25 rfl) (by decide) ?_
  refine lv_iload_n G.1.1 G.1.2.1 (dcs_get dec_X2_init_0 14 rfl) rfl (lv_at hl 0 rfl) ?_
  refine lv_bipush (v := (40 : Int32)) G.1.1 G.1.2.1 (dcs_get dec_X2_init_0 15 rfl) (by decide) ?_
  refine lv_icmp_ge (tgt := 50) G.1.1 G.1.2.1 (dcs_get dec_X2_init_0 16 rfl) (by decide) (fun hc => absurd hc (by decide)) (fun _ => ?_)
  refine lv_aload_n G.1.1 G.1.2.1 (dcs_get dec_X2_init_0 17 rfl) rfl (lv_at hl 1 rfl) ?_
  obtain ⟨z19, e_z19, ok_z19, hf⟩ := cR_some hf
  have k_z19 := okr_in ok_z19
  refine r_getr (k := 0) cls2 fi_2_0.1 fi_2_0.2 q_291 (G.gx w) w.1 k_a0.1 k_a0.2 e_z19 (dcs_get dec_X2_init_0 18 rfl) ?_
  refine lv_iload_n G.1.1 G.1.2.1 (dcs_get dec_X2_init_0 19 rfl) rfl (lv_at hl 0 rfl) ?_
  obtain ⟨h20, hf⟩ := cG_some hf
  obtain ⟨σ21, e_σ21, hf⟩ := cL_some hf
  obtain ⟨n22, e_n22, hf⟩ := cL_some hf
  refine r_new cls10 ctf10 okt10 q_288 q_228 q_8 G w h20 ⟨Nat.le_of_ble_eq_true rfl, Nat.le_of_ble_eq_true rfl⟩ (dcs_get dec_X2_init_0 20 rfl) (fun H ad1 e23 w => ?_)
  rw [← e23 a0 k_a0.1] at hl
  rw [← e23 z19 k_z19.1]
  have k_a0 := And.intro (Nat.lt_of_lt_of_le k_a0.1 (by omega : n15 ≤ n22)) k_a0.2
  have k_z19 := And.intro (Nat.lt_of_lt_of_le k_z19.1 (by omega : n15 ≤ n22)) k_z19.2
  have k_n15 : n15 < n22 ∧ (kC n15).1 = 10 := ⟨by omega, by rw [eq_of_beq h20]⟩
  have w := Wa_nm e_n22 e_σ21 w
  generalize ad1 = ad at hl w ⊢
  clear e23
  refine lv_dup G.1.1 G.1.2.1 (dcs_get dec_X2_init_0 21 rfl) rfl ?_
  obtain ⟨n26, σ25, h24, hf⟩ := cC_some hf
  refine a_A (k_IN (As := []) (rest := [.ref (ad n15), .int (1 : Int32), .ref (ad z19)]) lb_X10_init rfl q_230 nm_290 (C_X10_init w.2.1 (w.2.2.2.2 rfl) n15 h24 k_n15) ⟨Nat.le_of_ble_eq_true rfl, Nat.le_of_ble_eq_true rfl⟩ G w rfl rfl hl.1 (Nat.le_of_ble_eq_true rfl) (dcs_get dec_X2_init_0 22 rfl) ⟨Nat.le_of_ble_eq_true rfl, Nat.le_of_ble_eq_true rfl⟩) G w (fun H locs ad1 e27 w => ?_)
  rw [← e27.2 a0 k_a0.1] at hl
  rw [← e27.2 z19 k_z19.1]
  rw [← e27.2 n15 k_n15.1]
  have k_a0 := And.intro (Nat.lt_of_lt_of_le k_a0.1 e27.1) k_a0.2
  have k_z19 := And.intro (Nat.lt_of_lt_of_le k_z19.1 e27.1) k_z19.2
  have k_n15 := And.intro (Nat.lt_of_lt_of_le k_n15.1 e27.1) k_n15.2
  generalize ad1 = ad at hl w ⊢
  clear e27
  obtain ⟨h28, hf⟩ := cG_some hf
  obtain ⟨σ29, e_σ29, hf⟩ := cL_some hf
  refine r_aast cls10 rfl (G.gx w) w.1 k_z19.1 k_z19.2 k_n15.1 k_n15.2 h28 (dcs_get dec_X2_init_0 23 rfl) (fun H locs w1 => ?_)
  have w := Wa_uP e_σ29 k_n15.1 w w1
  refine lv_iinc (v := (2 : Int32)) (lv' := [(1, .int (2 : Int32)), (0, .ref (ad a0))]) G.1.1 G.1.2.1 (dcs_get dec_X2_init_0 24 rfl) hl (k := 0) rfl (by decide) (by decide) rfl (fun ls hl => ?_)
  refine lv_goto (tgt := 25) G.1.1 G.1.2.1 (dcs_get dec_X2_init_0 25 rfl) (by decide) ?_
  refine lv_iload_n G.1.1 G.1.2.1 (dcs_get dec_X2_init_0 14 rfl) rfl (lv_at hl 0 rfl) ?_
  refine lv_bipush (v := (40 : Int32)) G.1.1 G.1.2.1 (dcs_get dec_X2_init_0 15 rfl) (by decide) ?_
  refine lv_icmp_ge (tgt := 50) G.1.1 G.1.2.1 (dcs_get dec_X2_init_0 16 rfl) (by decide) (fun hc => absurd hc (by decide)) (fun _ => ?_)
  refine lv_aload_n G.1.1 G.1.2.1 (dcs_get dec_X2_init_0 17 rfl) rfl (lv_at hl 1 rfl) ?_
  obtain ⟨z30, e_z30, ok_z30, hf⟩ := cR_some hf
  have k_z30 := okr_in ok_z30
  refine r_getr (k := 0) cls2 fi_2_0.1 fi_2_0.2 q_291 (G.gx w) w.1 k_a0.1 k_a0.2 e_z30 (dcs_get dec_X2_init_0 18 rfl) ?_
  refine lv_iload_n G.1.1 G.1.2.1 (dcs_get dec_X2_init_0 19 rfl) rfl (lv_at hl 0 rfl) ?_
  obtain ⟨h31, hf⟩ := cG_some hf
  obtain ⟨σ32, e_σ32, hf⟩ := cL_some hf
  obtain ⟨n33, e_n33, hf⟩ := cL_some hf
  refine r_new cls10 ctf10 okt10 q_288 q_228 q_8 G w h31 ⟨Nat.le_of_ble_eq_true rfl, Nat.le_of_ble_eq_true rfl⟩ (dcs_get dec_X2_init_0 20 rfl) (fun H ad1 e34 w => ?_)
  rw [← e34 a0 k_a0.1] at hl
  rw [← e34 z30 k_z30.1]
  have k_a0 := And.intro (Nat.lt_of_lt_of_le k_a0.1 (by omega : n26 ≤ n33)) k_a0.2
  have k_z30 := And.intro (Nat.lt_of_lt_of_le k_z30.1 (by omega : n26 ≤ n33)) k_z30.2
  have k_n26 : n26 < n33 ∧ (kC n26).1 = 10 := ⟨by omega, by rw [eq_of_beq h31]⟩
  have w := Wa_nm e_n33 e_σ32 w
  generalize ad1 = ad at hl w ⊢
  clear e34
  refine lv_dup G.1.1 G.1.2.1 (dcs_get dec_X2_init_0 21 rfl) rfl ?_
  obtain ⟨n37, σ36, h35, hf⟩ := cC_some hf
  refine a_A (k_IN (As := []) (rest := [.ref (ad n26), .int (2 : Int32), .ref (ad z30)]) lb_X10_init rfl q_230 nm_290 (C_X10_init w.2.1 (w.2.2.2.2 rfl) n26 h35 k_n26) ⟨Nat.le_of_ble_eq_true rfl, Nat.le_of_ble_eq_true rfl⟩ G w rfl rfl hl.1 (Nat.le_of_ble_eq_true rfl) (dcs_get dec_X2_init_0 22 rfl) ⟨Nat.le_of_ble_eq_true rfl, Nat.le_of_ble_eq_true rfl⟩) G w (fun H locs ad1 e38 w => ?_)
  rw [← e38.2 a0 k_a0.1] at hl
  rw [← e38.2 z30 k_z30.1]
  rw [← e38.2 n26 k_n26.1]
  have k_a0 := And.intro (Nat.lt_of_lt_of_le k_a0.1 e38.1) k_a0.2
  have k_z30 := And.intro (Nat.lt_of_lt_of_le k_z30.1 e38.1) k_z30.2
  have k_n26 := And.intro (Nat.lt_of_lt_of_le k_n26.1 e38.1) k_n26.2
  generalize ad1 = ad at hl w ⊢
  clear e38
  obtain ⟨h39, hf⟩ := cG_some hf
  obtain ⟨σ40, e_σ40, hf⟩ := cL_some hf
  refine r_aast cls10 rfl (G.gx w) w.1 k_z30.1 k_z30.2 k_n26.1 k_n26.2 h39 (dcs_get dec_X2_init_0 23 rfl) (fun H locs w1 => ?_)
  have w := Wa_uP e_σ40 k_n26.1 w w1
  refine lv_iinc (v := (3 : Int32)) (lv' := [(1, .int (3 : Int32)), (0, .ref (ad a0))]) G.1.1 G.1.2.1 (dcs_get dec_X2_init_0 24 rfl) hl (k := 0) rfl (by decide) (by decide) rfl (fun ls hl => ?_)
  refine lv_goto (tgt := 25) G.1.1 G.1.2.1 (dcs_get dec_X2_init_0 25 rfl) (by decide) ?_
  refine lv_iload_n G.1.1 G.1.2.1 (dcs_get dec_X2_init_0 14 rfl) rfl (lv_at hl 0 rfl) ?_
  refine lv_bipush (v := (40 : Int32)) G.1.1 G.1.2.1 (dcs_get dec_X2_init_0 15 rfl) (by decide) ?_
  refine lv_icmp_ge (tgt := 50) G.1.1 G.1.2.1 (dcs_get dec_X2_init_0 16 rfl) (by decide) (fun hc => absurd hc (by decide)) (fun _ => ?_)
  refine lv_aload_n G.1.1 G.1.2.1 (dcs_get dec_X2_init_0 17 rfl) rfl (lv_at hl 1 rfl) ?_
  obtain ⟨z41, e_z41, ok_z41, hf⟩ := cR_some hf
  have k_z41 := okr_in ok_z41
  refine r_getr (k := 0) cls2 fi_2_0.1 fi_2_0.2 q_291 (G.gx w) w.1 k_a0.1 k_a0.2 e_z41 (dcs_get dec_X2_init_0 18 rfl) ?_
  refine lv_iload_n G.1.1 G.1.2.1 (dcs_get dec_X2_init_0 19 rfl) rfl (lv_at hl 0 rfl) ?_
  obtain ⟨h42, hf⟩ := cG_some hf
  obtain ⟨σ43, e_σ43, hf⟩ := cL_some hf
  obtain ⟨n44, e_n44, hf⟩ := cL_some hf
  refine r_new cls10 ctf10 okt10 q_288 q_228 q_8 G w h42 ⟨Nat.le_of_ble_eq_true rfl, Nat.le_of_ble_eq_true rfl⟩ (dcs_get dec_X2_init_0 20 rfl) (fun H ad1 e45 w => ?_)
  rw [← e45 a0 k_a0.1] at hl
  rw [← e45 z41 k_z41.1]
  have k_a0 := And.intro (Nat.lt_of_lt_of_le k_a0.1 (by omega : n37 ≤ n44)) k_a0.2
  have k_z41 := And.intro (Nat.lt_of_lt_of_le k_z41.1 (by omega : n37 ≤ n44)) k_z41.2
  have k_n37 : n37 < n44 ∧ (kC n37).1 = 10 := ⟨by omega, by rw [eq_of_beq h42]⟩
  have w := Wa_nm e_n44 e_σ43 w
  generalize ad1 = ad at hl w ⊢
  clear e45
  refine lv_dup G.1.1 G.1.2.1 (dcs_get dec_X2_init_0 21 rfl) rfl ?_
  obtain ⟨n48, σ47, h46, hf⟩ := cC_some hf
  refine a_A (k_IN (As := []) (rest := [.ref (ad n37), .int (3 : Int32), .ref (ad z41)]) lb_X10_init rfl q_230 nm_290 (C_X10_init w.2.1 (w.2.2.2.2 rfl) n37 h46 k_n37) ⟨Nat.le_of_ble_eq_true rfl, Nat.le_of_ble_eq_true rfl⟩ G w rfl rfl hl.1 (Nat.le_of_ble_eq_true rfl) (dcs_get dec_X2_init_0 22 rfl) ⟨Nat.le_of_ble_eq_true rfl, Nat.le_of_ble_eq_true rfl⟩) G w (fun H locs ad1 e49 w => ?_)
  rw [← e49.2 a0 k_a0.1] at hl
  rw [← e49.2 n37 k_n37.1]
  rw [← e49.2 z41 k_z41.1]
  have k_a0 := And.intro (Nat.lt_of_lt_of_le k_a0.1 e49.1) k_a0.2
  have k_z41 := And.intro (Nat.lt_of_lt_of_le k_z41.1 e49.1) k_z41.2
  have k_n37 := And.intro (Nat.lt_of_lt_of_le k_n37.1 e49.1) k_n37.2
  generalize ad1 = ad at hl w ⊢
  clear e49
  obtain ⟨h50, hf⟩ := cG_some hf
  obtain ⟨σ51, e_σ51, hf⟩ := cL_some hf
  refine r_aast cls10 rfl (G.gx w) w.1 k_z41.1 k_z41.2 k_n37.1 k_n37.2 h50 (dcs_get dec_X2_init_0 23 rfl) (fun H locs w1 => ?_)
  have w := Wa_uP e_σ51 k_n37.1 w w1
  refine lv_iinc (v := (4 : Int32)) (lv' := [(1, .int (4 : Int32)), (0, .ref (ad a0))]) G.1.1 G.1.2.1 (dcs_get dec_X2_init_0 24 rfl) hl (k := 0) rfl (by decide) (by decide) rfl (fun ls hl => ?_)
  refine lv_goto (tgt := 25) G.1.1 G.1.2.1 (dcs_get dec_X2_init_0 25 rfl) (by decide) ?_
  refine lv_iload_n G.1.1 G.1.2.1 (dcs_get dec_X2_init_0 14 rfl) rfl (lv_at hl 0 rfl) ?_
  refine lv_bipush (v := (40 : Int32)) G.1.1 G.1.2.1 (dcs_get dec_X2_init_0 15 rfl) (by decide) ?_
  refine lv_icmp_ge (tgt := 50) G.1.1 G.1.2.1 (dcs_get dec_X2_init_0 16 rfl) (by decide) (fun hc => absurd hc (by decide)) (fun _ => ?_)
  refine lv_aload_n G.1.1 G.1.2.1 (dcs_get dec_X2_init_0 17 rfl) rfl (lv_at hl 1 rfl) ?_
  obtain ⟨z52, e_z52, ok_z52, hf⟩ := cR_some hf
  have k_z52 := okr_in ok_z52
  refine r_getr (k := 0) cls2 fi_2_0.1 fi_2_0.2 q_291 (G.gx w) w.1 k_a0.1 k_a0.2 e_z52 (dcs_get dec_X2_init_0 18 rfl) ?_
  refine lv_iload_n G.1.1 G.1.2.1 (dcs_get dec_X2_init_0 19 rfl) rfl (lv_at hl 0 rfl) ?_
  obtain ⟨h53, hf⟩ := cG_some hf
  obtain ⟨σ54, e_σ54, hf⟩ := cL_some hf
  obtain ⟨n55, e_n55, hf⟩ := cL_some hf
  refine r_new cls10 ctf10 okt10 q_288 q_228 q_8 G w h53 ⟨Nat.le_of_ble_eq_true rfl, Nat.le_of_ble_eq_true rfl⟩ (dcs_get dec_X2_init_0 20 rfl) (fun H ad1 e56 w => ?_)
  rw [← e56 a0 k_a0.1] at hl
  rw [← e56 z52 k_z52.1]
  have k_a0 := And.intro (Nat.lt_of_lt_of_le k_a0.1 (by omega : n48 ≤ n55)) k_a0.2
  have k_z52 := And.intro (Nat.lt_of_lt_of_le k_z52.1 (by omega : n48 ≤ n55)) k_z52.2
  have k_n48 : n48 < n55 ∧ (kC n48).1 = 10 := ⟨by omega, by rw [eq_of_beq h53]⟩
  have w := Wa_nm e_n55 e_σ54 w
  generalize ad1 = ad at hl w ⊢
  clear e56
  refine lv_dup G.1.1 G.1.2.1 (dcs_get dec_X2_init_0 21 rfl) rfl ?_
  obtain ⟨n59, σ58, h57, hf⟩ := cC_some hf
  refine a_A (k_IN (As := []) (rest := [.ref (ad n48), .int (4 : Int32), .ref (ad z52)]) lb_X10_init rfl q_230 nm_290 (C_X10_init w.2.1 (w.2.2.2.2 rfl) n48 h57 k_n48) ⟨Nat.le_of_ble_eq_true rfl, Nat.le_of_ble_eq_true rfl⟩ G w rfl rfl hl.1 (Nat.le_of_ble_eq_true rfl) (dcs_get dec_X2_init_0 22 rfl) ⟨Nat.le_of_ble_eq_true rfl, Nat.le_of_ble_eq_true rfl⟩) G w (fun H locs ad1 e60 w => ?_)
  rw [← e60.2 a0 k_a0.1] at hl
  rw [← e60.2 n48 k_n48.1]
  rw [← e60.2 z52 k_z52.1]
  have k_a0 := And.intro (Nat.lt_of_lt_of_le k_a0.1 e60.1) k_a0.2
  have k_z52 := And.intro (Nat.lt_of_lt_of_le k_z52.1 e60.1) k_z52.2
  have k_n48 := And.intro (Nat.lt_of_lt_of_le k_n48.1 e60.1) k_n48.2
  generalize ad1 = ad at hl w ⊢
  clear e60
  obtain ⟨h61, hf⟩ := cG_some hf
  obtain ⟨σ62, e_σ62, hf⟩ := cL_some hf
  refine r_aast cls10 rfl (G.gx w) w.1 k_z52.1 k_z52.2 k_n48.1 k_n48.2 h61 (dcs_get dec_X2_init_0 23 rfl) (fun H locs w1 => ?_)
  have w := Wa_uP e_σ62 k_n48.1 w w1
  refine lv_iinc (v := (5 : Int32)) (lv' := [(1, .int (5 : Int32)), (0, .ref (ad a0))]) G.1.1 G.1.2.1 (dcs_get dec_X2_init_0 24 rfl) hl (k := 0) rfl (by decide) (by decide) rfl (fun ls hl => ?_)
  refine lv_goto (tgt := 25) G.1.1 G.1.2.1 (dcs_get dec_X2_init_0 25 rfl) (by decide) ?_
  refine lv_iload_n G.1.1 G.1.2.1 (dcs_get dec_X2_init_0 14 rfl) rfl (lv_at hl 0 rfl) ?_
  refine lv_bipush (v := (40 : Int32)) G.1.1 G.1.2.1 (dcs_get dec_X2_init_0 15 rfl) (by decide) ?_
  refine lv_icmp_ge (tgt := 50) G.1.1 G.1.2.1 (dcs_get dec_X2_init_0 16 rfl) (by decide) (fun hc => absurd hc (by decide)) (fun _ => ?_)
  refine lv_aload_n G.1.1 G.1.2.1 (dcs_get dec_X2_init_0 17 rfl) rfl (lv_at hl 1 rfl) ?_
  obtain ⟨z63, e_z63, ok_z63, hf⟩ := cR_some hf
  have k_z63 := okr_in ok_z63
  refine r_getr (k := 0) cls2 fi_2_0.1 fi_2_0.2 q_291 (G.gx w) w.1 k_a0.1 k_a0.2 e_z63 (dcs_get dec_X2_init_0 18 rfl) ?_
  refine lv_iload_n G.1.1 G.1.2.1 (dcs_get dec_X2_init_0 19 rfl) rfl (lv_at hl 0 rfl) ?_
  obtain ⟨h64, hf⟩ := cG_some hf
  obtain ⟨σ65, e_σ65, hf⟩ := cL_some hf
  obtain ⟨n66, e_n66, hf⟩ := cL_some hf
  refine r_new cls10 ctf10 okt10 q_288 q_228 q_8 G w h64 ⟨Nat.le_of_ble_eq_true rfl, Nat.le_of_ble_eq_true rfl⟩ (dcs_get dec_X2_init_0 20 rfl) (fun H ad1 e67 w => ?_)
  rw [← e67 a0 k_a0.1] at hl
  rw [← e67 z63 k_z63.1]
  have k_a0 := And.intro (Nat.lt_of_lt_of_le k_a0.1 (by omega : n59 ≤ n66)) k_a0.2
  have k_z63 := And.intro (Nat.lt_of_lt_of_le k_z63.1 (by omega : n59 ≤ n66)) k_z63.2
  have k_n59 : n59 < n66 ∧ (kC n59).1 = 10 := ⟨by omega, by rw [eq_of_beq h64]⟩
  have w := Wa_nm e_n66 e_σ65 w
  generalize ad1 = ad at hl w ⊢
  clear e67
  refine lv_dup G.1.1 G.1.2.1 (dcs_get dec_X2_init_0 21 rfl) rfl ?_
  obtain ⟨n70, σ69, h68, hf⟩ := cC_some hf
  refine a_A (k_IN (As := []) (rest := [.ref (ad n59), .int (5 : Int32), .ref (ad z63)]) lb_X10_init rfl q_230 nm_290 (C_X10_init w.2.1 (w.2.2.2.2 rfl) n59 h68 k_n59) ⟨Nat.le_of_ble_eq_true rfl, Nat.le_of_ble_eq_true rfl⟩ G w rfl rfl hl.1 (Nat.le_of_ble_eq_true rfl) (dcs_get dec_X2_init_0 22 rfl) ⟨Nat.le_of_ble_eq_true rfl, Nat.le_of_ble_eq_true rfl⟩) G w (fun H locs ad1 e71 w => ?_)
  rw [← e71.2 a0 k_a0.1] at hl
  rw [← e71.2 z63 k_z63.1]
  rw [← e71.2 n59 k_n59.1]
  have k_a0 := And.intro (Nat.lt_of_lt_of_le k_a0.1 e71.1) k_a0.2
  have k_z63 := And.intro (Nat.lt_of_lt_of_le k_z63.1 e71.1) k_z63.2
  have k_n59 := And.intro (Nat.lt_of_lt_of_le k_n59.1 e71.1) k_n59.2
  generalize ad1 = ad at hl w ⊢
  clear e71
  obtain ⟨h72, hf⟩ := cG_some hf
  obtain ⟨σ73, e_σ73, hf⟩ := cL_some hf
  refine r_aast cls10 rfl (G.gx w) w.1 k_z63.1 k_z63.2 k_n59.1 k_n59.2 h72 (dcs_get dec_X2_init_0 23 rfl) (fun H locs w1 => ?_)
  have w := Wa_uP e_σ73 k_n59.1 w w1
  refine lv_iinc (v := (6 : Int32)) (lv' := [(1, .int (6 : Int32)), (0, .ref (ad a0))]) G.1.1 G.1.2.1 (dcs_get dec_X2_init_0 24 rfl) hl (k := 0) rfl (by decide) (by decide) rfl (fun ls hl => ?_)
  refine lv_goto (tgt := 25) G.1.1 G.1.2.1 (dcs_get dec_X2_init_0 25 rfl) (by decide) ?_
  refine lv_iload_n G.1.1 G.1.2.1 (dcs_get dec_X2_init_0 14 rfl) rfl (lv_at hl 0 rfl) ?_
  refine lv_bipush (v := (40 : Int32)) G.1.1 G.1.2.1 (dcs_get dec_X2_init_0 15 rfl) (by decide) ?_
  refine lv_icmp_ge (tgt := 50) G.1.1 G.1.2.1 (dcs_get dec_X2_init_0 16 rfl) (by decide) (fun hc => absurd hc (by decide)) (fun _ => ?_)
  refine lv_aload_n G.1.1 G.1.2.1 (dcs_get dec_X2_init_0 17 rfl) rfl (lv_at hl 1 rfl) ?_
  obtain ⟨z74, e_z74, ok_z74, hf⟩ := cR_some hf
  have k_z74 := okr_in ok_z74
  refine r_getr (k := 0) cls2 fi_2_0.1 fi_2_0.2 q_291 (G.gx w) w.1 k_a0.1 k_a0.2 e_z74 (dcs_get dec_X2_init_0 18 rfl) ?_
  refine lv_iload_n G.1.1 G.1.2.1 (dcs_get dec_X2_init_0 19 rfl) rfl (lv_at hl 0 rfl) ?_
  obtain ⟨h75, hf⟩ := cG_some hf
  obtain ⟨σ76, e_σ76, hf⟩ := cL_some hf
  obtain ⟨n77, e_n77, hf⟩ := cL_some hf
  refine r_new cls10 ctf10 okt10 q_288 q_228 q_8 G w h75 ⟨Nat.le_of_ble_eq_true rfl, Nat.le_of_ble_eq_true rfl⟩ (dcs_get dec_X2_init_0 20 rfl) (fun H ad1 e78 w => ?_)
  rw [← e78 a0 k_a0.1] at hl
  rw [← e78 z74 k_z74.1]
  have k_a0 := And.intro (Nat.lt_of_lt_of_le k_a0.1 (by omega : n70 ≤ n77)) k_a0.2
  have k_z74 := And.intro (Nat.lt_of_lt_of_le k_z74.1 (by omega : n70 ≤ n77)) k_z74.2
  have k_n70 : n70 < n77 ∧ (kC n70).1 = 10 := ⟨by omega, by rw [eq_of_beq h75]⟩
  have w := Wa_nm e_n77 e_σ76 w
  generalize ad1 = ad at hl w ⊢
  clear e78
  refine lv_dup G.1.1 G.1.2.1 (dcs_get dec_X2_init_0 21 rfl) rfl ?_
  obtain ⟨n81, σ80, h79, hf⟩ := cC_some hf
  refine a_A (k_IN (As := []) (rest := [.ref (ad n70), .int (6 : Int32), .ref (ad z74)]) lb_X10_init rfl q_230 nm_290 (C_X10_init w.2.1 (w.2.2.2.2 rfl) n70 h79 k_n70) ⟨Nat.le_of_ble_eq_true rfl, Nat.le_of_ble_eq_true rfl⟩ G w rfl rfl hl.1 (Nat.le_of_ble_eq_true rfl) (dcs_get dec_X2_init_0 22 rfl) ⟨Nat.le_of_ble_eq_true rfl, Nat.le_of_ble_eq_true rfl⟩) G w (fun H locs ad1 e82 w => ?_)
  rw [← e82.2 a0 k_a0.1] at hl
  rw [← e82.2 n70 k_n70.1]
  rw [← e82.2 z74 k_z74.1]
  have k_a0 := And.intro (Nat.lt_of_lt_of_le k_a0.1 e82.1) k_a0.2
  have k_z74 := And.intro (Nat.lt_of_lt_of_le k_z74.1 e82.1) k_z74.2
  have k_n70 := And.intro (Nat.lt_of_lt_of_le k_n70.1 e82.1) k_n70.2
  generalize ad1 = ad at hl w ⊢
  clear e82
  obtain ⟨h83, hf⟩ := cG_some hf
  obtain ⟨σ84, e_σ84, hf⟩ := cL_some hf
  refine r_aast cls10 rfl (G.gx w) w.1 k_z74.1 k_z74.2 k_n70.1 k_n70.2 h83 (dcs_get dec_X2_init_0 23 rfl) (fun H locs w1 => ?_)
  have w := Wa_uP e_σ84 k_n70.1 w w1
  refine lv_iinc (v := (7 : Int32)) (lv' := [(1, .int (7 : Int32)), (0, .ref (ad a0))]) G.1.1 G.1.2.1 (dcs_get dec_X2_init_0 24 rfl) hl (k := 0) rfl (by decide) (by decide) rfl (fun ls hl => ?_)
  refine lv_goto (tgt := 25) G.1.1 G.1.2.1 (dcs_get dec_X2_init_0 25 rfl) (by decide) ?_
  refine lv_iload_n G.1.1 G.1.2.1 (dcs_get dec_X2_init_0 14 rfl) rfl (lv_at hl 0 rfl) ?_
  refine lv_bipush (v := (40 : Int32)) G.1.1 G.1.2.1 (dcs_get dec_X2_init_0 15 rfl) (by decide) ?_
  refine lv_icmp_ge (tgt := 50) G.1.1 G.1.2.1 (dcs_get dec_X2_init_0 16 rfl) (by decide) (fun hc => absurd hc (by decide)) (fun _ => ?_)
  refine lv_aload_n G.1.1 G.1.2.1 (dcs_get dec_X2_init_0 17 rfl) rfl (lv_at hl 1 rfl) ?_
  obtain ⟨z85, e_z85, ok_z85, hf⟩ := cR_some hf
  have k_z85 := okr_in ok_z85
  refine r_getr (k := 0) cls2 fi_2_0.1 fi_2_0.2 q_291 (G.gx w) w.1 k_a0.1 k_a0.2 e_z85 (dcs_get dec_X2_init_0 18 rfl) ?_
  refine lv_iload_n G.1.1 G.1.2.1 (dcs_get dec_X2_init_0 19 rfl) rfl (lv_at hl 0 rfl) ?_
  obtain ⟨h86, hf⟩ := cG_some hf
  obtain ⟨σ87, e_σ87, hf⟩ := cL_some hf
  obtain ⟨n88, e_n88, hf⟩ := cL_some hf
  refine r_new cls10 ctf10 okt10 q_288 q_228 q_8 G w h86 ⟨Nat.le_of_ble_eq_true rfl, Nat.le_of_ble_eq_true rfl⟩ (dcs_get dec_X2_init_0 20 rfl) (fun H ad1 e89 w => ?_)
  rw [← e89 a0 k_a0.1] at hl
  rw [← e89 z85 k_z85.1]
  have k_a0 := And.intro (Nat.lt_of_lt_of_le k_a0.1 (by omega : n81 ≤ n88)) k_a0.2
  have k_z85 := And.intro (Nat.lt_of_lt_of_le k_z85.1 (by omega : n81 ≤ n88)) k_z85.2
  have k_n81 : n81 < n88 ∧ (kC n81).1 = 10 := ⟨by omega, by rw [eq_of_beq h86]⟩
  have w := Wa_nm e_n88 e_σ87 w
  generalize ad1 = ad at hl w ⊢
  clear e89
  refine lv_dup G.1.1 G.1.2.1 (dcs_get dec_X2_init_0 21 rfl) rfl ?_
  obtain ⟨n92, σ91, h90, hf⟩ := cC_some hf
  refine a_A (k_IN (As := []) (rest := [.ref (ad n81), .int (7 : Int32), .ref (ad z85)]) lb_X10_init rfl q_230 nm_290 (C_X10_init w.2.1 (w.2.2.2.2 rfl) n81 h90 k_n81) ⟨Nat.le_of_ble_eq_true rfl, Nat.le_of_ble_eq_true rfl⟩ G w rfl rfl hl.1 (Nat.le_of_ble_eq_true rfl) (dcs_get dec_X2_init_0 22 rfl) ⟨Nat.le_of_ble_eq_true rfl, Nat.le_of_ble_eq_true rfl⟩) G w (fun H locs ad1 e93 w => ?_)
  rw [← e93.2 a0 k_a0.1] at hl
  rw [← e93.2 n81 k_n81.1]
  rw [← e93.2 z85 k_z85.1]
  have k_a0 := And.intro (Nat.lt_of_lt_of_le k_a0.1 e93.1) k_a0.2
  have k_z85 := And.intro (Nat.lt_of_lt_of_le k_z85.1 e93.1) k_z85.2
  have k_n81 := And.intro (Nat.lt_of_lt_of_le k_n81.1 e93.1) k_n81.2
  generalize ad1 = ad at hl w ⊢
  clear e93
  obtain ⟨h94, hf⟩ := cG_some hf
  obtain ⟨σ95, e_σ95, hf⟩ := cL_some hf
  refine r_aast cls10 rfl (G.gx w) w.1 k_z85.1 k_z85.2 k_n81.1 k_n81.2 h94 (dcs_get dec_X2_init_0 23 rfl) (fun H locs w1 => ?_)
  have w := Wa_uP e_σ95 k_n81.1 w w1
  refine lv_iinc (v := (8 : Int32)) (lv' := [(1, .int (8 : Int32)), (0, .ref (ad a0))]) G.1.1 G.1.2.1 (dcs_get dec_X2_init_0 24 rfl) hl (k := 0) rfl (by decide) (by decide) rfl (fun ls hl => ?_)
  refine lv_goto (tgt := 25) G.1.1 G.1.2.1 (dcs_get dec_X2_init_0 25 rfl) (by decide) ?_
  refine lv_iload_n G.1.1 G.1.2.1 (dcs_get dec_X2_init_0 14 rfl) rfl (lv_at hl 0 rfl) ?_
  refine lv_bipush (v := (40 : Int32)) G.1.1 G.1.2.1 (dcs_get dec_X2_init_0 15 rfl) (by decide) ?_
  refine lv_icmp_ge (tgt := 50) G.1.1 G.1.2.1 (dcs_get dec_X2_init_0 16 rfl) (by decide) (fun hc => absurd hc (by decide)) (fun _ => ?_)
  refine lv_aload_n G.1.1 G.1.2.1 (dcs_get dec_X2_init_0 17 rfl) rfl (lv_at hl 1 rfl) ?_
  obtain ⟨z96, e_z96, ok_z96, hf⟩ := cR_some hf
  have k_z96 := okr_in ok_z96
  refine r_getr (k := 0) cls2 fi_2_0.1 fi_2_0.2 q_291 (G.gx w) w.1 k_a0.1 k_a0.2 e_z96 (dcs_get dec_X2_init_0 18 rfl) ?_
  refine lv_iload_n G.1.1 G.1.2.1 (dcs_get dec_X2_init_0 19 rfl) rfl (lv_at hl 0 rfl) ?_
  obtain ⟨h97, hf⟩ := cG_some hf
  obtain ⟨σ98, e_σ98, hf⟩ := cL_some hf
  obtain ⟨n99, e_n99, hf⟩ := cL_some hf
  refine r_new cls10 ctf10 okt10 q_288 q_228 q_8 G w h97 ⟨Nat.le_of_ble_eq_true rfl, Nat.le_of_ble_eq_true rfl⟩ (dcs_get dec_X2_init_0 20 rfl) (fun H ad1 e100 w => ?_)
  rw [← e100 a0 k_a0.1] at hl
  rw [← e100 z96 k_z96.1]
  have k_a0 := And.intro (Nat.lt_of_lt_of_le k_a0.1 (by omega : n92 ≤ n99)) k_a0.2
  have k_z96 := And.intro (Nat.lt_of_lt_of_le k_z96.1 (by omega : n92 ≤ n99)) k_z96.2
  have k_n92 : n92 < n99 ∧ (kC n92).1 = 10 := ⟨by omega, by rw [eq_of_beq h97]⟩
  have w := Wa_nm e_n99 e_σ98 w
  generalize ad1 = ad at hl w ⊢
  clear e100
  refine lv_dup G.1.1 G.1.2.1 (dcs_get dec_X2_init_0 21 rfl) rfl ?_
  obtain ⟨n103, σ102, h101, hf⟩ := cC_some hf
  refine a_A (k_IN (As := []) (rest := [.ref (ad n92), .int (8 : Int32), .ref (ad z96)]) lb_X10_init rfl q_230 nm_290 (C_X10_init w.2.1 (w.2.2.2.2 rfl) n92 h101 k_n92) ⟨Nat.le_of_ble_eq_true rfl, Nat.le_of_ble_eq_true rfl⟩ G w rfl rfl hl.1 (Nat.le_of_ble_eq_true rfl) (dcs_get dec_X2_init_0 22 rfl) ⟨Nat.le_of_ble_eq_true rfl, Nat.le_of_ble_eq_true rfl⟩) G w (fun H locs ad1 e104 w => ?_)
  rw [← e104.2 a0 k_a0.1] at hl
  rw [← e104.2 n92 k_n92.1]
  rw [← e104.2 z96 k_z96.1]
  have k_a0 := And.intro (Nat.lt_of_lt_of_le k_a0.1 e104.1) k_a0.2
  have k_z96 := And.intro (Nat.lt_of_lt_of_le k_z96.1 e104.1) k_z96.2
  have k_n92 := And.intro (Nat.lt_of_lt_of_le k_n92.1 e104.1) k_n92.2
  generalize ad1 = ad at hl w ⊢
  clear e104
  obtain ⟨h105, hf⟩ := cG_some hf
  obtain ⟨σ106, e_σ106, hf⟩ := cL_some hf
  refine r_aast cls10 rfl (G.gx w) w.1 k_z96.1 k_z96.2 k_n92.1 k_n92.2 h105 (dcs_get dec_X2_init_0 23 rfl) (fun H locs w1 => ?_)
  have w := Wa_uP e_σ106 k_n92.1 w w1
  refine lv_iinc (v := (9 : Int32)) (lv' := [(1, .int (9 : Int32)), (0, .ref (ad a0))]) G.1.1 G.1.2.1 (dcs_get dec_X2_init_0 24 rfl) hl (k := 0) rfl (by decide) (by decide) rfl (fun ls hl => ?_)
  refine lv_goto (tgt := 25) G.1.1 G.1.2.1 (dcs_get dec_X2_init_0 25 rfl) (by decide) ?_
  refine lv_iload_n G.1.1 G.1.2.1 (dcs_get dec_X2_init_0 14 rfl) rfl (lv_at hl 0 rfl) ?_
  refine lv_bipush (v := (40 : Int32)) G.1.1 G.1.2.1 (dcs_get dec_X2_init_0 15 rfl) (by decide) ?_
  refine lv_icmp_ge (tgt := 50) G.1.1 G.1.2.1 (dcs_get dec_X2_init_0 16 rfl) (by decide) (fun hc => absurd hc (by decide)) (fun _ => ?_)
  refine lv_aload_n G.1.1 G.1.2.1 (dcs_get dec_X2_init_0 17 rfl) rfl (lv_at hl 1 rfl) ?_
  obtain ⟨z107, e_z107, ok_z107, hf⟩ := cR_some hf
  have k_z107 := okr_in ok_z107
  refine r_getr (k := 0) cls2 fi_2_0.1 fi_2_0.2 q_291 (G.gx w) w.1 k_a0.1 k_a0.2 e_z107 (dcs_get dec_X2_init_0 18 rfl) ?_
  refine lv_iload_n G.1.1 G.1.2.1 (dcs_get dec_X2_init_0 19 rfl) rfl (lv_at hl 0 rfl) ?_
  obtain ⟨h108, hf⟩ := cG_some hf
  obtain ⟨σ109, e_σ109, hf⟩ := cL_some hf
  obtain ⟨n110, e_n110, hf⟩ := cL_some hf
  refine r_new cls10 ctf10 okt10 q_288 q_228 q_8 G w h108 ⟨Nat.le_of_ble_eq_true rfl, Nat.le_of_ble_eq_true rfl⟩ (dcs_get dec_X2_init_0 20 rfl) (fun H ad1 e111 w => ?_)
  rw [← e111 a0 k_a0.1] at hl
  rw [← e111 z107 k_z107.1]
  have k_a0 := And.intro (Nat.lt_of_lt_of_le k_a0.1 (by omega : n103 ≤ n110)) k_a0.2
  have k_z107 := And.intro (Nat.lt_of_lt_of_le k_z107.1 (by omega : n103 ≤ n110)) k_z107.2
  have k_n103 : n103 < n110 ∧ (kC n103).1 = 10 := ⟨by omega, by rw [eq_of_beq h108]⟩
  have w := Wa_nm e_n110 e_σ109 w
  generalize ad1 = ad at hl w ⊢
  clear e111
  refine lv_dup G.1.1 G.1.2.1 (dcs_get dec_X2_init_0 21 rfl) rfl ?_
  obtain ⟨n114, σ113, h112, hf⟩ := cC_some hf
  refine a_A (k_IN (As := []) (rest := [.ref (ad n103), .int (9 : Int32), .ref (ad z107)]) lb_X10_init rfl q_230 nm_290 (C_X10_init w.2.1 (w.2.2.2.2 rfl) n103 h112 k_n103) ⟨Nat.le_of_ble_eq_true rfl, Nat.le_of_ble_eq_true rfl⟩ G w rfl rfl hl.1 (Nat.le_of_ble_eq_true rfl) (dcs_get dec_X2_init_0 22 rfl) ⟨Nat.le_of_ble_eq_true rfl, Nat.le_of_ble_eq_true rfl⟩) G w (fun H locs ad1 e115 w => ?_)
  rw [← e115.2 a0 k_a0.1] at hl
  rw [← e115.2 z107 k_z107.1]
  rw [← e115.2 n103 k_n103.1]
  have k_a0 := And.intro (Nat.lt_of_lt_of_le k_a0.1 e115.1) k_a0.2
  have k_z107 := And.intro (Nat.lt_of_lt_of_le k_z107.1 e115.1) k_z107.2
  have k_n103 := And.intro (Nat.lt_of_lt_of_le k_n103.1 e115.1) k_n103.2
  generalize ad1 = ad at hl w ⊢
  clear e115
  obtain ⟨h116, hf⟩ := cG_some hf
  obtain ⟨σ117, e_σ117, hf⟩ := cL_some hf
  refine r_aast cls10 rfl (G.gx w) w.1 k_z107.1 k_z107.2 k_n103.1 k_n103.2 h116 (dcs_get dec_X2_init_0 23 rfl) (fun H locs w1 => ?_)
  have w := Wa_uP e_σ117 k_n103.1 w w1
  refine lv_iinc (v := (10 : Int32)) (lv' := [(1, .int (10 : Int32)), (0, .ref (ad a0))]) G.1.1 G.1.2.1 (dcs_get dec_X2_init_0 24 rfl) hl (k := 0) rfl (by decide) (by decide) rfl (fun ls hl => ?_)
  refine lv_goto (tgt := 25) G.1.1 G.1.2.1 (dcs_get dec_X2_init_0 25 rfl) (by decide) ?_
  refine lv_iload_n G.1.1 G.1.2.1 (dcs_get dec_X2_init_0 14 rfl) rfl (lv_at hl 0 rfl) ?_
  refine lv_bipush (v := (40 : Int32)) G.1.1 G.1.2.1 (dcs_get dec_X2_init_0 15 rfl) (by decide) ?_
  refine lv_icmp_ge (tgt := 50) G.1.1 G.1.2.1 (dcs_get dec_X2_init_0 16 rfl) (by decide) (fun hc => absurd hc (by decide)) (fun _ => ?_)
  refine lv_aload_n G.1.1 G.1.2.1 (dcs_get dec_X2_init_0 17 rfl) rfl (lv_at hl 1 rfl) ?_
  obtain ⟨z118, e_z118, ok_z118, hf⟩ := cR_some hf
  have k_z118 := okr_in ok_z118
  refine r_getr (k := 0) cls2 fi_2_0.1 fi_2_0.2 q_291 (G.gx w) w.1 k_a0.1 k_a0.2 e_z118 (dcs_get dec_X2_init_0 18 rfl) ?_
  refine lv_iload_n G.1.1 G.1.2.1 (dcs_get dec_X2_init_0 19 rfl) rfl (lv_at hl 0 rfl) ?_
  obtain ⟨h119, hf⟩ := cG_some hf
  obtain ⟨σ120, e_σ120, hf⟩ := cL_some hf
  obtain ⟨n121, e_n121, hf⟩ := cL_some hf
  refine r_new cls10 ctf10 okt10 q_288 q_228 q_8 G w h119 ⟨Nat.le_of_ble_eq_true rfl, Nat.le_of_ble_eq_true rfl⟩ (dcs_get dec_X2_init_0 20 rfl) (fun H ad1 e122 w => ?_)
  rw [← e122 a0 k_a0.1] at hl
  rw [← e122 z118 k_z118.1]
  have k_a0 := And.intro (Nat.lt_of_lt_of_le k_a0.1 (by omega : n114 ≤ n121)) k_a0.2
  have k_z118 := And.intro (Nat.lt_of_lt_of_le k_z118.1 (by omega : n114 ≤ n121)) k_z118.2
  have k_n114 : n114 < n121 ∧ (kC n114).1 = 10 := ⟨by omega, by rw [eq_of_beq h119]⟩
  have w := Wa_nm e_n121 e_σ120 w
  generalize ad1 = ad at hl w ⊢
  clear e122
  refine lv_dup G.1.1 G.1.2.1 (dcs_get dec_X2_init_0 21 rfl) rfl ?_
  obtain ⟨n125, σ124, h123, hf⟩ := cC_some hf
  refine a_A (k_IN (As := []) (rest := [.ref (ad n114), .int (10 : Int32), .ref (ad z118)]) lb_X10_init rfl q_230 nm_290 (C_X10_init w.2.1 (w.2.2.2.2 rfl) n114 h123 k_n114) ⟨Nat.le_of_ble_eq_true rfl, Nat.le_of_ble_eq_true rfl⟩ G w rfl rfl hl.1 (Nat.le_of_ble_eq_true rfl) (dcs_get dec_X2_init_0 22 rfl) ⟨Nat.le_of_ble_eq_true rfl, Nat.le_of_ble_eq_true rfl⟩) G w (fun H locs ad1 e126 w => ?_)
  rw [← e126.2 a0 k_a0.1] at hl
  rw [← e126.2 z118 k_z118.1]
  rw [← e126.2 n114 k_n114.1]
  have k_a0 := And.intro (Nat.lt_of_lt_of_le k_a0.1 e126.1) k_a0.2
  have k_z118 := And.intro (Nat.lt_of_lt_of_le k_z118.1 e126.1) k_z118.2
  have k_n114 := And.intro (Nat.lt_of_lt_of_le k_n114.1 e126.1) k_n114.2
  generalize ad1 = ad at hl w ⊢
  clear e126
  obtain ⟨h127, hf⟩ := cG_some hf
  obtain ⟨σ128, e_σ128, hf⟩ := cL_some hf
  refine r_aast cls10 rfl (G.gx w) w.1 k_z118.1 k_z118.2 k_n114.1 k_n114.2 h127 (dcs_get dec_X2_init_0 23 rfl) (fun H locs w1 => ?_)
  have w := Wa_uP e_σ128 k_n114.1 w w1
  refine lv_iinc (v := (11 : Int32)) (lv' := [(1, .int (11 : Int32)), (0, .ref (ad a0))]) G.1.1 G.1.2.1 (dcs_get dec_X2_init_0 24 rfl) hl (k := 0) rfl (by decide) (by decide) rfl (fun ls hl => ?_)
  refine lv_goto (tgt := 25) G.1.1 G.1.2.1 (dcs_get dec_X2_init_0 25 rfl) (by decide) ?_
  refine lv_iload_n G.1.1 G.1.2.1 (dcs_get dec_X2_init_0 14 rfl) rfl (lv_at hl 0 rfl) ?_
  refine lv_bipush (v := (40 : Int32)) G.1.1 G.1.2.1 (dcs_get dec_X2_init_0 15 rfl) (by decide) ?_
  refine lv_icmp_ge (tgt := 50) G.1.1 G.1.2.1 (dcs_get dec_X2_init_0 16 rfl) (by decide) (fun hc => absurd hc (by decide)) (fun _ => ?_)
  refine lv_aload_n G.1.1 G.1.2.1 (dcs_get dec_X2_init_0 17 rfl) rfl (lv_at hl 1 rfl) ?_
  obtain ⟨z129, e_z129, ok_z129, hf⟩ := cR_some hf
  have k_z129 := okr_in ok_z129
  refine r_getr (k := 0) cls2 fi_2_0.1 fi_2_0.2 q_291 (G.gx w) w.1 k_a0.1 k_a0.2 e_z129 (dcs_get dec_X2_init_0 18 rfl) ?_
  refine lv_iload_n G.1.1 G.1.2.1 (dcs_get dec_X2_init_0 19 rfl) rfl (lv_at hl 0 rfl) ?_
  obtain ⟨h130, hf⟩ := cG_some hf
  obtain ⟨σ131, e_σ131, hf⟩ := cL_some hf
  obtain ⟨n132, e_n132, hf⟩ := cL_some hf
  refine r_new cls10 ctf10 okt10 q_288 q_228 q_8 G w h130 ⟨Nat.le_of_ble_eq_true rfl, Nat.le_of_ble_eq_true rfl⟩ (dcs_get dec_X2_init_0 20 rfl) (fun H ad1 e133 w => ?_)
  rw [← e133 a0 k_a0.1] at hl
  rw [← e133 z129 k_z129.1]
  have k_a0 := And.intro (Nat.lt_of_lt_of_le k_a0.1 (by omega : n125 ≤ n132)) k_a0.2
  have k_z129 := And.intro (Nat.lt_of_lt_of_le k_z129.1 (by omega : n125 ≤ n132)) k_z129.2
  have k_n125 : n125 < n132 ∧ (kC n125).1 = 10 := ⟨by omega, by rw [eq_of_beq h130]⟩
  have w := Wa_nm e_n132 e_σ131 w
  generalize ad1 = ad at hl w ⊢
  clear e133
  refine lv_dup G.1.1 G.1.2.1 (dcs_get dec_X2_init_0 21 rfl) rfl ?_
  obtain ⟨n136, σ135, h134, hf⟩ := cC_some hf
  refine a_A (k_IN (As := []) (rest := [.ref (ad n125), .int (11 : Int32), .ref (ad z129)]) lb_X10_init rfl q_230 nm_290 (C_X10_init w.2.1 (w.2.2.2.2 rfl) n125 h134 k_n125) ⟨Nat.le_of_ble_eq_true rfl, Nat.le_of_ble_eq_true rfl⟩ G w rfl rfl hl.1 (Nat.le_of_ble_eq_true rfl) (dcs_get dec_X2_init_0 22 rfl) ⟨Nat.le_of_ble_eq_true rfl, Nat.le_of_ble_eq_true rfl⟩) G w (fun H locs ad1 e137 w => ?_)
  rw [← e137.2 a0 k_a0.1] at hl
  rw [← e137.2 z129 k_z129.1]
  rw [← e137.2 n125 k_n125.1]
  have k_a0 := And.intro (Nat.lt_of_lt_of_le k_a0.1 e137.1) k_a0.2
  have k_z129 := And.intro (Nat.lt_of_lt_of_le k_z129.1 e137.1) k_z129.2
  have k_n125 := And.intro (Nat.lt_of_lt_of_le k_n125.1 e137.1) k_n125.2
  generalize ad1 = ad at hl w ⊢
  clear e137
  obtain ⟨h138, hf⟩ := cG_some hf
  obtain ⟨σ139, e_σ139, hf⟩ := cL_some hf
  refine r_aast cls10 rfl (G.gx w) w.1 k_z129.1 k_z129.2 k_n125.1 k_n125.2 h138 (dcs_get dec_X2_init_0 23 rfl) (fun H locs w1 => ?_)
  have w := Wa_uP e_σ139 k_n125.1 w w1
  refine lv_iinc (v := (12 : Int32)) (lv' := [(1, .int (12 : Int32)), (0, .ref (ad a0))]) G.1.1 G.1.2.1 (dcs_get dec_X2_init_0 24 rfl) hl (k := 0) rfl (by decide) (by decide) rfl (fun ls hl => ?_)
  refine lv_goto (tgt := 25) G.1.1 G.1.2.1 (dcs_get dec_X2_init_0 25 rfl) (by decide) ?_
  refine lv_iload_n G.1.1 G.1.2.1 (dcs_get dec_X2_init_0 14 rfl) rfl (lv_at hl 0 rfl) ?_
  refine lv_bipush (v := (40 : Int32)) G.1.1 G.1.2.1 (dcs_get dec_X2_init_0 15 rfl) (by decide) ?_
  refine lv_icmp_ge (tgt := 50) G.1.1 G.1.2.1 (dcs_get dec_X2_init_0 16 rfl) (by decide) (fun hc => absurd hc (by decide)) (fun _ => ?_)
  refine lv_aload_n G.1.1 G.1.2.1 (dcs_get dec_X2_init_0 17 rfl) rfl (lv_at hl 1 rfl) ?_
  obtain ⟨z140, e_z140, ok_z140, hf⟩ := cR_some hf
  have k_z140 := okr_in ok_z140
  refine r_getr (k := 0) cls2 fi_2_0.1 fi_2_0.2 q_291 (G.gx w) w.1 k_a0.1 k_a0.2 e_z140 (dcs_get dec_X2_init_0 18 rfl) ?_
  refine lv_iload_n G.1.1 G.1.2.1 (dcs_get dec_X2_init_0 19 rfl) rfl (lv_at hl 0 rfl) ?_
  obtain ⟨h141, hf⟩ := cG_some hf
  obtain ⟨σ142, e_σ142, hf⟩ := cL_some hf
  obtain ⟨n143, e_n143, hf⟩ := cL_some hf
  refine r_new cls10 ctf10 okt10 q_288 q_228 q_8 G w h141 ⟨Nat.le_of_ble_eq_true rfl, Nat.le_of_ble_eq_true rfl⟩ (dcs_get dec_X2_init_0 20 rfl) (fun H ad1 e144 w => ?_)
  rw [← e144 a0 k_a0.1] at hl
  rw [← e144 z140 k_z140.1]
  have k_a0 := And.intro (Nat.lt_of_lt_of_le k_a0.1 (by omega : n136 ≤ n143)) k_a0.2
  have k_z140 := And.intro (Nat.lt_of_lt_of_le k_z140.1 (by omega : n136 ≤ n143)) k_z140.2
  have k_n136 : n136 < n143 ∧ (kC n136).1 = 10 := ⟨by omega, by rw [eq_of_beq h141]⟩
  have w := Wa_nm e_n143 e_σ142 w
  generalize ad1 = ad at hl w ⊢
  clear e144
  refine lv_dup G.1.1 G.1.2.1 (dcs_get dec_X2_init_0 21 rfl) rfl ?_
  obtain ⟨n147, σ146, h145, hf⟩ := cC_some hf
  refine a_A (k_IN (As := []) (rest := [.ref (ad n136), .int (12 : Int32), .ref (ad z140)]) lb_X10_init rfl q_230 nm_290 (C_X10_init w.2.1 (w.2.2.2.2 rfl) n136 h145 k_n136) ⟨Nat.le_of_ble_eq_true rfl, Nat.le_of_ble_eq_true rfl⟩ G w rfl rfl hl.1 (Nat.le_of_ble_eq_true rfl) (dcs_get dec_X2_init_0 22 rfl) ⟨Nat.le_of_ble_eq_true rfl, Nat.le_of_ble_eq_true rfl⟩) G w (fun H locs ad1 e148 w => ?_)
  rw [← e148.2 a0 k_a0.1] at hl
  rw [← e148.2 z140 k_z140.1]
  rw [← e148.2 n136 k_n136.1]
  have k_a0 := And.intro (Nat.lt_of_lt_of_le k_a0.1 e148.1) k_a0.2
  have k_z140 := And.intro (Nat.lt_of_lt_of_le k_z140.1 e148.1) k_z140.2
  have k_n136 := And.intro (Nat.lt_of_lt_of_le k_n136.1 e148.1) k_n136.2
  generalize ad1 = ad at hl w ⊢
  clear e148
  obtain ⟨h149, hf⟩ := cG_some hf
  obtain ⟨σ150, e_σ150, hf⟩ := cL_some hf
  refine r_aast cls10 rfl (G.gx w) w.1 k_z140.1 k_z140.2 k_n136.1 k_n136.2 h149 (dcs_get dec_X2_init_0 23 rfl) (fun H locs w1 => ?_)
  have w := Wa_uP e_σ150 k_n136.1 w w1
  refine lv_iinc (v := (13 : Int32)) (lv' := [(1, .int (13 : Int32)), (0, .ref (ad a0))]) G.1.1 G.1.2.1 (dcs_get dec_X2_init_0 24 rfl) hl (k := 0) rfl (by decide) (by decide) rfl (fun ls hl => ?_)
  refine lv_goto (tgt := 25) G.1.1 G.1.2.1 (dcs_get dec_X2_init_0 25 rfl) (by decide) ?_
  refine lv_iload_n G.1.1 G.1.2.1 (dcs_get dec_X2_init_0 14 rfl) rfl (lv_at hl 0 rfl) ?_
  refine lv_bipush (v := (40 : Int32)) G.1.1 G.1.2.1 (dcs_get dec_X2_init_0 15 rfl) (by decide) ?_
  refine lv_icmp_ge (tgt := 50) G.1.1 G.1.2.1 (dcs_get dec_X2_init_0 16 rfl) (by decide) (fun hc => absurd hc (by decide)) (fun _ => ?_)
  refine lv_aload_n G.1.1 G.1.2.1 (dcs_get dec_X2_init_0 17 rfl) rfl (lv_at hl 1 rfl) ?_
  obtain ⟨z151, e_z151, ok_z151, hf⟩ := cR_some hf
  have k_z151 := okr_in ok_z151
  refine r_getr (k := 0) cls2 fi_2_0.1 fi_2_0.2 q_291 (G.gx w) w.1 k_a0.1 k_a0.2 e_z151 (dcs_get dec_X2_init_0 18 rfl) ?_
  refine lv_iload_n G.1.1 G.1.2.1 (dcs_get dec_X2_init_0 19 rfl) rfl (lv_at hl 0 rfl) ?_
  obtain ⟨h152, hf⟩ := cG_some hf
  obtain ⟨σ153, e_σ153, hf⟩ := cL_some hf
  obtain ⟨n154, e_n154, hf⟩ := cL_some hf
  refine r_new cls10 ctf10 okt10 q_288 q_228 q_8 G w h152 ⟨Nat.le_of_ble_eq_true rfl, Nat.le_of_ble_eq_true rfl⟩ (dcs_get dec_X2_init_0 20 rfl) (fun H ad1 e155 w => ?_)
  rw [← e155 a0 k_a0.1] at hl
  rw [← e155 z151 k_z151.1]
  have k_a0 := And.intro (Nat.lt_of_lt_of_le k_a0.1 (by omega : n147 ≤ n154)) k_a0.2
  have k_z151 := And.intro (Nat.lt_of_lt_of_le k_z151.1 (by omega : n147 ≤ n154)) k_z151.2
  have k_n147 : n147 < n154 ∧ (kC n147).1 = 10 := ⟨by omega, by rw [eq_of_beq h152]⟩
  have w := Wa_nm e_n154 e_σ153 w
  generalize ad1 = ad at hl w ⊢
  clear e155
  refine lv_dup G.1.1 G.1.2.1 (dcs_get dec_X2_init_0 21 rfl) rfl ?_
  obtain ⟨n158, σ157, h156, hf⟩ := cC_some hf
  refine a_A (k_IN (As := []) (rest := [.ref (ad n147), .int (13 : Int32), .ref (ad z151)]) lb_X10_init rfl q_230 nm_290 (C_X10_init w.2.1 (w.2.2.2.2 rfl) n147 h156 k_n147) ⟨Nat.le_of_ble_eq_true rfl, Nat.le_of_ble_eq_true rfl⟩ G w rfl rfl hl.1 (Nat.le_of_ble_eq_true rfl) (dcs_get dec_X2_init_0 22 rfl) ⟨Nat.le_of_ble_eq_true rfl, Nat.le_of_ble_eq_true rfl⟩) G w (fun H locs ad1 e159 w => ?_)
  rw [← e159.2 a0 k_a0.1] at hl
  rw [← e159.2 z151 k_z151.1]
  rw [← e159.2 n147 k_n147.1]
  have k_a0 := And.intro (Nat.lt_of_lt_of_le k_a0.1 e159.1) k_a0.2
  have k_z151 := And.intro (Nat.lt_of_lt_of_le k_z151.1 e159.1) k_z151.2
  have k_n147 := And.intro (Nat.lt_of_lt_of_le k_n147.1 e159.1) k_n147.2
  generalize ad1 = ad at hl w ⊢
  clear e159
  obtain ⟨h160, hf⟩ := cG_some hf
  obtain ⟨σ161, e_σ161, hf⟩ := cL_some hf
  refine r_aast cls10 rfl (G.gx w) w.1 k_z151.1 k_z151.2 k_n147.1 k_n147.2 h160 (dcs_get dec_X2_init_0 23 rfl) (fun H locs w1 => ?_)
  have w := Wa_uP e_σ161 k_n147.1 w w1
  refine lv_iinc (v := (14 : Int32)) (lv' := [(1, .int (14 : Int32)), (0, .ref (ad a0))]) G.1.1 G.1.2.1 (dcs_get dec_X2_init_0 24 rfl) hl (k := 0) rfl (by decide) (by decide) rfl (fun ls hl => ?_)
  refine lv_goto (tgt := 25) G.1.1 G.1.2.1 (dcs_get dec_X2_init_0 25 rfl) (by decide) ?_
  refine lv_iload_n G.1.1 G.1.2.1 (dcs_get dec_X2_init_0 14 rfl) rfl (lv_at hl 0 rfl) ?_
  refine lv_bipush (v := (40 : Int32)) G.1.1 G.1.2.1 (dcs_get dec_X2_init_0 15 rfl) (by decide) ?_
  refine lv_icmp_ge (tgt := 50) G.1.1 G.1.2.1 (dcs_get dec_X2_init_0 16 rfl) (by decide) (fun hc => absurd hc (by decide)) (fun _ => ?_)
  refine lv_aload_n G.1.1 G.1.2.1 (dcs_get dec_X2_init_0 17 rfl) rfl (lv_at hl 1 rfl) ?_
  obtain ⟨z162, e_z162, ok_z162, hf⟩ := cR_some hf
  have k_z162 := okr_in ok_z162
  refine r_getr (k := 0) cls2 fi_2_0.1 fi_2_0.2 q_291 (G.gx w) w.1 k_a0.1 k_a0.2 e_z162 (dcs_get dec_X2_init_0 18 rfl) ?_
  refine lv_iload_n G.1.1 G.1.2.1 (dcs_get dec_X2_init_0 19 rfl) rfl (lv_at hl 0 rfl) ?_
  obtain ⟨h163, hf⟩ := cG_some hf
  obtain ⟨σ164, e_σ164, hf⟩ := cL_some hf
  obtain ⟨n165, e_n165, hf⟩ := cL_some hf
  refine r_new cls10 ctf10 okt10 q_288 q_228 q_8 G w h163 ⟨Nat.le_of_ble_eq_true rfl, Nat.le_of_ble_eq_true rfl⟩ (dcs_get dec_X2_init_0 20 rfl) (fun H ad1 e166 w => ?_)
  rw [← e166 a0 k_a0.1] at hl
  rw [← e166 z162 k_z162.1]
  have k_a0 := And.intro (Nat.lt_of_lt_of_le k_a0.1 (by omega : n158 ≤ n165)) k_a0.2
  have k_z162 := And.intro (Nat.lt_of_lt_of_le k_z162.1 (by omega : n158 ≤ n165)) k_z162.2
  have k_n158 : n158 < n165 ∧ (kC n158).1 = 10 := ⟨by omega, by rw [eq_of_beq h163]⟩
  have w := Wa_nm e_n165 e_σ164 w
  generalize ad1 = ad at hl w ⊢
  clear e166
  refine lv_dup G.1.1 G.1.2.1 (dcs_get dec_X2_init_0 21 rfl) rfl ?_
  obtain ⟨n169, σ168, h167, hf⟩ := cC_some hf
  refine a_A (k_IN (As := []) (rest := [.ref (ad n158), .int (14 : Int32), .ref (ad z162)]) lb_X10_init rfl q_230 nm_290 (C_X10_init w.2.1 (w.2.2.2.2 rfl) n158 h167 k_n158) ⟨Nat.le_of_ble_eq_true rfl, Nat.le_of_ble_eq_true rfl⟩ G w rfl rfl hl.1 (Nat.le_of_ble_eq_true rfl) (dcs_get dec_X2_init_0 22 rfl) ⟨Nat.le_of_ble_eq_true rfl, Nat.le_of_ble_eq_true rfl⟩) G w (fun H locs ad1 e170 w => ?_)
  rw [← e170.2 a0 k_a0.1] at hl
  rw [← e170.2 n158 k_n158.1]
  rw [← e170.2 z162 k_z162.1]
  have k_a0 := And.intro (Nat.lt_of_lt_of_le k_a0.1 e170.1) k_a0.2
  have k_z162 := And.intro (Nat.lt_of_lt_of_le k_z162.1 e170.1) k_z162.2
  have k_n158 := And.intro (Nat.lt_of_lt_of_le k_n158.1 e170.1) k_n158.2
  generalize ad1 = ad at hl w ⊢
  clear e170
  obtain ⟨h171, hf⟩ := cG_some hf
  obtain ⟨σ172, e_σ172, hf⟩ := cL_some hf
  refine r_aast cls10 rfl (G.gx w) w.1 k_z162.1 k_z162.2 k_n158.1 k_n158.2 h171 (dcs_get dec_X2_init_0 23 rfl) (fun H locs w1 => ?_)
  have w := Wa_uP e_σ172 k_n158.1 w w1
  refine lv_iinc (v := (15 : Int32)) (lv' := [(1, .int (15 : Int32)), (0, .ref (ad a0))]) G.1.1 G.1.2.1 (dcs_get dec_X2_init_0 24 rfl) hl (k := 0) rfl (by decide) (by decide) rfl (fun ls hl => ?_)
  refine lv_goto (tgt := 25) G.1.1 G.1.2.1 (dcs_get dec_X2_init_0 25 rfl) (by decide) ?_
  refine lv_iload_n G.1.1 G.1.2.1 (dcs_get dec_X2_init_0 14 rfl) rfl (lv_at hl 0 rfl) ?_
  refine lv_bipush (v := (40 : Int32)) G.1.1 G.1.2.1 (dcs_get dec_X2_init_0 15 rfl) (by decide) ?_
  refine lv_icmp_ge (tgt := 50) G.1.1 G.1.2.1 (dcs_get dec_X2_init_0 16 rfl) (by decide) (fun hc => absurd hc (by decide)) (fun _ => ?_)
  refine lv_aload_n G.1.1 G.1.2.1 (dcs_get dec_X2_init_0 17 rfl) rfl (lv_at hl 1 rfl) ?_
  obtain ⟨z173, e_z173, ok_z173, hf⟩ := cR_some hf
  have k_z173 := okr_in ok_z173
  refine r_getr (k := 0) cls2 fi_2_0.1 fi_2_0.2 q_291 (G.gx w) w.1 k_a0.1 k_a0.2 e_z173 (dcs_get dec_X2_init_0 18 rfl) ?_
  refine lv_iload_n G.1.1 G.1.2.1 (dcs_get dec_X2_init_0 19 rfl) rfl (lv_at hl 0 rfl) ?_
  obtain ⟨h174, hf⟩ := cG_some hf
  obtain ⟨σ175, e_σ175, hf⟩ := cL_some hf
  obtain ⟨n176, e_n176, hf⟩ := cL_some hf
  refine r_new cls10 ctf10 okt10 q_288 q_228 q_8 G w h174 ⟨Nat.le_of_ble_eq_true rfl, Nat.le_of_ble_eq_true rfl⟩ (dcs_get dec_X2_init_0 20 rfl) (fun H ad1 e177 w => ?_)
  rw [← e177 a0 k_a0.1] at hl
  rw [← e177 z173 k_z173.1]
  have k_a0 := And.intro (Nat.lt_of_lt_of_le k_a0.1 (by omega : n169 ≤ n176)) k_a0.2
  have k_z173 := And.intro (Nat.lt_of_lt_of_le k_z173.1 (by omega : n169 ≤ n176)) k_z173.2
  have k_n169 : n169 < n176 ∧ (kC n169).1 = 10 := ⟨by omega, by rw [eq_of_beq h174]⟩
  have w := Wa_nm e_n176 e_σ175 w
  generalize ad1 = ad at hl w ⊢
  clear e177
  refine lv_dup G.1.1 G.1.2.1 (dcs_get dec_X2_init_0 21 rfl) rfl ?_
  obtain ⟨n180, σ179, h178, hf⟩ := cC_some hf
  refine a_A (k_IN (As := []) (rest := [.ref (ad n169), .int (15 : Int32), .ref (ad z173)]) lb_X10_init rfl q_230 nm_290 (C_X10_init w.2.1 (w.2.2.2.2 rfl) n169 h178 k_n169) ⟨Nat.le_of_ble_eq_true rfl, Nat.le_of_ble_eq_true rfl⟩ G w rfl rfl hl.1 (Nat.le_of_ble_eq_true rfl) (dcs_get dec_X2_init_0 22 rfl) ⟨Nat.le_of_ble_eq_true rfl, Nat.le_of_ble_eq_true rfl⟩) G w (fun H locs ad1 e181 w => ?_)
  rw [← e181.2 a0 k_a0.1] at hl
  rw [← e181.2 z173 k_z173.1]
  rw [← e181.2 n169 k_n169.1]
  have k_a0 := And.intro (Nat.lt_of_lt_of_le k_a0.1 e181.1) k_a0.2
  have k_z173 := And.intro (Nat.lt_of_lt_of_le k_z173.1 e181.1) k_z173.2
  have k_n169 := And.intro (Nat.lt_of_lt_of_le k_n169.1 e181.1) k_n169.2
  generalize ad1 = ad at hl w ⊢
  clear e181
  obtain ⟨h182, hf⟩ := cG_some hf
  obtain ⟨σ183, e_σ183, hf⟩ := cL_some hf
  refine r_aast cls10 rfl (G.gx w) w.1 k_z173.1 k_z173.2 k_n169.1 k_n169.2 h182 (dcs_get dec_X2_init_0 23 rfl) (fun H locs w1 => ?_)
  have w := Wa_uP e_σ183 k_n169.1 w w1
  refine lv_iinc (v := (16 : Int32)) (lv' := [(1, .int (16 : Int32)), (0, .ref (ad a0))]) G.1.1 G.1.2.1 (dcs_get dec_X2_init_0 24 rfl) hl (k := 0) rfl (by decide) (by decide) rfl (fun ls hl => ?_)
  refine lv_goto (tgt := 25) G.1.1 G.1.2.1 (dcs_get dec_X2_init_0 25 rfl) (by decide) ?_
  refine lv_iload_n G.1.1 G.1.2.1 (dcs_get dec_X2_init_0 14 rfl) rfl (lv_at hl 0 rfl) ?_
  refine lv_bipush (v := (40 : Int32)) G.1.1 G.1.2.1 (dcs_get dec_X2_init_0 15 rfl) (by decide) ?_
  refine lv_icmp_ge (tgt := 50) G.1.1 G.1.2.1 (dcs_get dec_X2_init_0 16 rfl) (by decide) (fun hc => absurd hc (by decide)) (fun _ => ?_)
  refine lv_aload_n G.1.1 G.1.2.1 (dcs_get dec_X2_init_0 17 rfl) rfl (lv_at hl 1 rfl) ?_
  obtain ⟨z184, e_z184, ok_z184, hf⟩ := cR_some hf
  have k_z184 := okr_in ok_z184
  refine r_getr (k := 0) cls2 fi_2_0.1 fi_2_0.2 q_291 (G.gx w) w.1 k_a0.1 k_a0.2 e_z184 (dcs_get dec_X2_init_0 18 rfl) ?_
  refine lv_iload_n G.1.1 G.1.2.1 (dcs_get dec_X2_init_0 19 rfl) rfl (lv_at hl 0 rfl) ?_
  obtain ⟨h185, hf⟩ := cG_some hf
  obtain ⟨σ186, e_σ186, hf⟩ := cL_some hf
  obtain ⟨n187, e_n187, hf⟩ := cL_some hf
  refine r_new cls10 ctf10 okt10 q_288 q_228 q_8 G w h185 ⟨Nat.le_of_ble_eq_true rfl, Nat.le_of_ble_eq_true rfl⟩ (dcs_get dec_X2_init_0 20 rfl) (fun H ad1 e188 w => ?_)
  rw [← e188 a0 k_a0.1] at hl
  rw [← e188 z184 k_z184.1]
  have k_a0 := And.intro (Nat.lt_of_lt_of_le k_a0.1 (by omega : n180 ≤ n187)) k_a0.2
  have k_z184 := And.intro (Nat.lt_of_lt_of_le k_z184.1 (by omega : n180 ≤ n187)) k_z184.2
  have k_n180 : n180 < n187 ∧ (kC n180).1 = 10 := ⟨by omega, by rw [eq_of_beq h185]⟩
  have w := Wa_nm e_n187 e_σ186 w
  generalize ad1 = ad at hl w ⊢
  clear e188
  refine lv_dup G.1.1 G.1.2.1 (dcs_get dec_X2_init_0 21 rfl) rfl ?_
  obtain ⟨n191, σ190, h189, hf⟩ := cC_some hf
  refine a_A (k_IN (As := []) (rest := [.ref (ad n180), .int (16 : Int32), .ref (ad z184)]) lb_X10_init rfl q_230 nm_290 (C_X10_init w.2.1 (w.2.2.2.2 rfl) n180 h189 k_n180) ⟨Nat.le_of_ble_eq_true rfl, Nat.le_of_ble_eq_true rfl⟩ G w rfl rfl hl.1 (Nat.le_of_ble_eq_true rfl) (dcs_get dec_X2_init_0 22 rfl) ⟨Nat.le_of_ble_eq_true rfl, Nat.le_of_ble_eq_true rfl⟩) G w (fun H locs ad1 e192 w => ?_)
  rw [← e192.2 a0 k_a0.1] at hl
  rw [← e192.2 z184 k_z184.1]
  rw [← e192.2 n180 k_n180.1]
  have k_a0 := And.intro (Nat.lt_of_lt_of_le k_a0.1 e192.1) k_a0.2
  have k_z184 := And.intro (Nat.lt_of_lt_of_le k_z184.1 e192.1) k_z184.2
  have k_n180 := And.intro (Nat.lt_of_lt_of_le k_n180.1 e192.1) k_n180.2
  generalize ad1 = ad at hl w ⊢
  clear e192
  obtain ⟨h193, hf⟩ := cG_some hf
  obtain ⟨σ194, e_σ194, hf⟩ := cL_some hf
  refine r_aast cls10 rfl (G.gx w) w.1 k_z184.1 k_z184.2 k_n180.1 k_n180.2 h193 (dcs_get dec_X2_init_0 23 rfl) (fun H locs w1 => ?_)
  have w := Wa_uP e_σ194 k_n180.1 w w1
  refine lv_iinc (v := (17 : Int32)) (lv' := [(1, .int (17 : Int32)), (0, .ref (ad a0))]) G.1.1 G.1.2.1 (dcs_get dec_X2_init_0 24 rfl) hl (k := 0) rfl (by decide) (by decide) rfl (fun ls hl => ?_)
  refine lv_goto (tgt := 25) G.1.1 G.1.2.1 (dcs_get dec_X2_init_0 25 rfl) (by decide) ?_
  refine lv_iload_n G.1.1 G.1.2.1 (dcs_get dec_X2_init_0 14 rfl) rfl (lv_at hl 0 rfl) ?_
  refine lv_bipush (v := (40 : Int32)) G.1.1 G.1.2.1 (dcs_get dec_X2_init_0 15 rfl) (by decide) ?_
  refine lv_icmp_ge (tgt := 50) G.1.1 G.1.2.1 (dcs_get dec_X2_init_0 16 rfl) (by decide) (fun hc => absurd hc (by decide)) (fun _ => ?_)
  refine lv_aload_n G.1.1 G.1.2.1 (dcs_get dec_X2_init_0 17 rfl) rfl (lv_at hl 1 rfl) ?_
  obtain ⟨z195, e_z195, ok_z195, hf⟩ := cR_some hf
  have k_z195 := okr_in ok_z195
  refine r_getr (k := 0) cls2 fi_2_0.1 fi_2_0.2 q_291 (G.gx w) w.1 k_a0.1 k_a0.2 e_z195 (dcs_get dec_X2_init_0 18 rfl) ?_
  refine lv_iload_n G.1.1 G.1.2.1 (dcs_get dec_X2_init_0 19 rfl) rfl (lv_at hl 0 rfl) ?_
  obtain ⟨h196, hf⟩ := cG_some hf
  obtain ⟨σ197, e_σ197, hf⟩ := cL_some hf
  obtain ⟨n198, e_n198, hf⟩ := cL_some hf
  refine r_new cls10 ctf10 okt10 q_288 q_228 q_8 G w h196 ⟨Nat.le_of_ble_eq_true rfl, Nat.le_of_ble_eq_true rfl⟩ (dcs_get dec_X2_init_0 20 rfl) (fun H ad1 e199 w => ?_)
  rw [← e199 a0 k_a0.1] at hl
  rw [← e199 z195 k_z195.1]
  have k_a0 := And.intro (Nat.lt_of_lt_of_le k_a0.1 (by omega : n191 ≤ n198)) k_a0.2
  have k_z195 := And.intro (Nat.lt_of_lt_of_le k_z195.1 (by omega : n191 ≤ n198)) k_z195.2
  have k_n191 : n191 < n198 ∧ (kC n191).1 = 10 := ⟨by omega, by rw [eq_of_beq h196]⟩
  have w := Wa_nm e_n198 e_σ197 w
  generalize ad1 = ad at hl w ⊢
  clear e199
  refine lv_dup G.1.1 G.1.2.1 (dcs_get dec_X2_init_0 21 rfl) rfl ?_
  obtain ⟨n202, σ201, h200, hf⟩ := cC_some hf
  refine a_A (k_IN (As := []) (rest := [.ref (ad n191), .int (17 : Int32), .ref (ad z195)]) lb_X10_init rfl q_230 nm_290 (C_X10_init w.2.1 (w.2.2.2.2 rfl) n191 h200 k_n191) ⟨Nat.le_of_ble_eq_true rfl, Nat.le_of_ble_eq_true rfl⟩ G w rfl rfl hl.1 (Nat.le_of_ble_eq_true rfl) (dcs_get dec_X2_init_0 22 rfl) ⟨Nat.le_of_ble_eq_true rfl, Nat.le_of_ble_eq_true rfl⟩) G w (fun H locs ad1 e203 w => ?_)
  rw [← e203.2 a0 k_a0.1] at hl
  rw [← e203.2 n191 k_n191.1]
  rw [← e203.2 z195 k_z195.1]
  have k_a0 := And.intro (Nat.lt_of_lt_of_le k_a0.1 e203.1) k_a0.2
  have k_z195 := And.intro (Nat.lt_of_lt_of_le k_z195.1 e203.1) k_z195.2
  have k_n191 := And.intro (Nat.lt_of_lt_of_le k_n191.1 e203.1) k_n191.2
  generalize ad1 = ad at hl w ⊢
  clear e203
  obtain ⟨h204, hf⟩ := cG_some hf
  obtain ⟨σ205, e_σ205, hf⟩ := cL_some hf
  refine r_aast cls10 rfl (G.gx w) w.1 k_z195.1 k_z195.2 k_n191.1 k_n191.2 h204 (dcs_get dec_X2_init_0 23 rfl) (fun H locs w1 => ?_)
  have w := Wa_uP e_σ205 k_n191.1 w w1
  refine lv_iinc (v := (18 : Int32)) (lv' := [(1, .int (18 : Int32)), (0, .ref (ad a0))]) G.1.1 G.1.2.1 (dcs_get dec_X2_init_0 24 rfl) hl (k := 0) rfl (by decide) (by decide) rfl (fun ls hl => ?_)
  refine lv_goto (tgt := 25) G.1.1 G.1.2.1 (dcs_get dec_X2_init_0 25 rfl) (by decide) ?_
  refine lv_iload_n G.1.1 G.1.2.1 (dcs_get dec_X2_init_0 14 rfl) rfl (lv_at hl 0 rfl) ?_
  refine lv_bipush (v := (40 : Int32)) G.1.1 G.1.2.1 (dcs_get dec_X2_init_0 15 rfl) (by decide) ?_
  refine lv_icmp_ge (tgt := 50) G.1.1 G.1.2.1 (dcs_get dec_X2_init_0 16 rfl) (by decide) (fun hc => absurd hc (by decide)) (fun _ => ?_)
  refine lv_aload_n G.1.1 G.1.2.1 (dcs_get dec_X2_init_0 17 rfl) rfl (lv_at hl 1 rfl) ?_
  obtain ⟨z206, e_z206, ok_z206, hf⟩ := cR_some hf
  have k_z206 := okr_in ok_z206
  refine r_getr (k := 0) cls2 fi_2_0.1 fi_2_0.2 q_291 (G.gx w) w.1 k_a0.1 k_a0.2 e_z206 (dcs_get dec_X2_init_0 18 rfl) ?_
  refine lv_iload_n G.1.1 G.1.2.1 (dcs_get dec_X2_init_0 19 rfl) rfl (lv_at hl 0 rfl) ?_
  obtain ⟨h207, hf⟩ := cG_some hf
  obtain ⟨σ208, e_σ208, hf⟩ := cL_some hf
  obtain ⟨n209, e_n209, hf⟩ := cL_some hf
  refine r_new cls10 ctf10 okt10 q_288 q_228 q_8 G w h207 ⟨Nat.le_of_ble_eq_true rfl, Nat.le_of_ble_eq_true rfl⟩ (dcs_get dec_X2_init_0 20 rfl) (fun H ad1 e210 w => ?_)
  rw [← e210 a0 k_a0.1] at hl
  rw [← e210 z206 k_z206.1]
  have k_a0 := And.intro (Nat.lt_of_lt_of_le k_a0.1 (by omega : n202 ≤ n209)) k_a0.2
  have k_z206 := And.intro (Nat.lt_of_lt_of_le k_z206.1 (by omega : n202 ≤ n209)) k_z206.2
  have k_n202 : n202 < n209 ∧ (kC n202).1 = 10 := ⟨by omega, by rw [eq_of_beq h207]⟩
  have w := Wa_nm e_n209 e_σ208 w
  generalize ad1 = ad at hl w ⊢
  clear e210
  refine lv_dup G.1.1 G.1.2.1 (dcs_get dec_X2_init_0 21 rfl) rfl ?_
  obtain ⟨n213, σ212, h211, hf⟩ := cC_some hf
  refine a_A (k_IN (As := []) (rest := [.ref (ad n202), .int (18 : Int32), .ref (ad z206)]) lb_X10_init rfl q_230 nm_290 (C_X10_init w.2.1 (w.2.2.2.2 rfl) n202 h211 k_n202) ⟨Nat.le_of_ble_eq_true rfl, Nat.le_of_ble_eq_true rfl⟩ G w rfl rfl hl.1 (Nat.le_of_ble_eq_true rfl) (dcs_get dec_X2_init_0 22 rfl) ⟨Nat.le_of_ble_eq_true rfl, Nat.le_of_ble_eq_true rfl⟩) G w (fun H locs ad1 e214 w => ?_)
  rw [← e214.2 a0 k_a0.1] at hl
  rw [← e214.2 n202 k_n202.1]
  rw [← e214.2 z206 k_z206.1]
  have k_a0 := And.intro (Nat.lt_of_lt_of_le k_a0.1 e214.1) k_a0.2
  have k_z206 := And.intro (Nat.lt_of_lt_of_le k_z206.1 e214.1) k_z206.2
  have k_n202 := And.intro (Nat.lt_of_lt_of_le k_n202.1 e214.1) k_n202.2
  generalize ad1 = ad at hl w ⊢
  clear e214
  obtain ⟨h215, hf⟩ := cG_some hf
  obtain ⟨σ216, e_σ216, hf⟩ := cL_some hf
  refine r_aast cls10 rfl (G.gx w) w.1 k_z206.1 k_z206.2 k_n202.1 k_n202.2 h215 (dcs_get dec_X2_init_0 23 rfl) (fun H locs w1 => ?_)
  have w := Wa_uP e_σ216 k_n202.1 w w1
  refine lv_iinc (v := (19 : Int32)) (lv' := [(1, .int (19 : Int32)), (0, .ref (ad a0))]) G.1.1 G.1.2.1 (dcs_get dec_X2_init_0 24 rfl) hl (k := 0) rfl (by decide) (by decide) rfl (fun ls hl => ?_)
  refine lv_goto (tgt := 25) G.1.1 G.1.2.1 (dcs_get dec_X2_init_0 25 rfl) (by decide) ?_
  refine lv_iload_n G.1.1 G.1.2.1 (dcs_get dec_X2_init_0 14 rfl) rfl (lv_at hl 0 rfl) ?_
  refine lv_bipush (v := (40 : Int32)) G.1.1 G.1.2.1 (dcs_get dec_X2_init_0 15 rfl) (by decide) ?_
  refine lv_icmp_ge (tgt := 50) G.1.1 G.1.2.1 (dcs_get dec_X2_init_0 16 rfl) (by decide) (fun hc => absurd hc (by decide)) (fun _ => ?_)
  refine lv_aload_n G.1.1 G.1.2.1 (dcs_get dec_X2_init_0 17 rfl) rfl (lv_at hl 1 rfl) ?_
  obtain ⟨z217, e_z217, ok_z217, hf⟩ := cR_some hf
  have k_z217 := okr_in ok_z217
  refine r_getr (k := 0) cls2 fi_2_0.1 fi_2_0.2 q_291 (G.gx w) w.1 k_a0.1 k_a0.2 e_z217 (dcs_get dec_X2_init_0 18 rfl) ?_
  refine lv_iload_n G.1.1 G.1.2.1 (dcs_get dec_X2_init_0 19 rfl) rfl (lv_at hl 0 rfl) ?_
  obtain ⟨h218, hf⟩ := cG_some hf
  obtain ⟨σ219, e_σ219, hf⟩ := cL_some hf
  obtain ⟨n220, e_n220, hf⟩ := cL_some hf
  refine r_new cls10 ctf10 okt10 q_288 q_228 q_8 G w h218 ⟨Nat.le_of_ble_eq_true rfl, Nat.le_of_ble_eq_true rfl⟩ (dcs_get dec_X2_init_0 20 rfl) (fun H ad1 e221 w => ?_)
  rw [← e221 a0 k_a0.1] at hl
  rw [← e221 z217 k_z217.1]
  have k_a0 := And.intro (Nat.lt_of_lt_of_le k_a0.1 (by omega : n213 ≤ n220)) k_a0.2
  have k_z217 := And.intro (Nat.lt_of_lt_of_le k_z217.1 (by omega : n213 ≤ n220)) k_z217.2
  have k_n213 : n213 < n220 ∧ (kC n213).1 = 10 := ⟨by omega, by rw [eq_of_beq h218]⟩
  have w := Wa_nm e_n220 e_σ219 w
  generalize ad1 = ad at hl w ⊢
  clear e221
  refine lv_dup G.1.1 G.1.2.1 (dcs_get dec_X2_init_0 21 rfl) rfl ?_
  obtain ⟨n224, σ223, h222, hf⟩ := cC_some hf
  refine a_A (k_IN (As := []) (rest := [.ref (ad n213), .int (19 : Int32), .ref (ad z217)]) lb_X10_init rfl q_230 nm_290 (C_X10_init w.2.1 (w.2.2.2.2 rfl) n213 h222 k_n213) ⟨Nat.le_of_ble_eq_true rfl, Nat.le_of_ble_eq_true rfl⟩ G w rfl rfl hl.1 (Nat.le_of_ble_eq_true rfl) (dcs_get dec_X2_init_0 22 rfl) ⟨Nat.le_of_ble_eq_true rfl, Nat.le_of_ble_eq_true rfl⟩) G w (fun H locs ad1 e225 w => ?_)
  rw [← e225.2 a0 k_a0.1] at hl
  rw [← e225.2 n213 k_n213.1]
  rw [← e225.2 z217 k_z217.1]
  have k_a0 := And.intro (Nat.lt_of_lt_of_le k_a0.1 e225.1) k_a0.2
  have k_z217 := And.intro (Nat.lt_of_lt_of_le k_z217.1 e225.1) k_z217.2
  have k_n213 := And.intro (Nat.lt_of_lt_of_le k_n213.1 e225.1) k_n213.2
  generalize ad1 = ad at hl w ⊢
  clear e225
  obtain ⟨h226, hf⟩ := cG_some hf
  obtain ⟨σ227, e_σ227, hf⟩ := cL_some hf
  refine r_aast cls10 rfl (G.gx w) w.1 k_z217.1 k_z217.2 k_n213.1 k_n213.2 h226 (dcs_get dec_X2_init_0 23 rfl) (fun H locs w1 => ?_)
  have w := Wa_uP e_σ227 k_n213.1 w w1
  refine lv_iinc (v := (20 : Int32)) (lv' := [(1, .int (20 : Int32)), (0, .ref (ad a0))]) G.1.1 G.1.2.1 (dcs_get dec_X2_init_0 24 rfl) hl (k := 0) rfl (by decide) (by decide) rfl (fun ls hl => ?_)
  refine lv_goto (tgt := 25) G.1.1 G.1.2.1 (dcs_get dec_X2_init_0 25 rfl) (by decide) ?_
  refine lv_iload_n G.1.1 G.1.2.1 (dcs_get dec_X2_init_0 14 rfl) rfl (lv_at hl 0 rfl) ?_
  refine lv_bipush (v := (40 : Int32)) G.1.1 G.1.2.1 (dcs_get dec_X2_init_0 15 rfl) (by decide) ?_
  refine lv_icmp_ge (tgt := 50) G.1.1 G.1.2.1 (dcs_get dec_X2_init_0 16 rfl) (by decide) (fun hc => absurd hc (by decide)) (fun _ => ?_)
  refine lv_aload_n G.1.1 G.1.2.1 (dcs_get dec_X2_init_0 17 rfl) rfl (lv_at hl 1 rfl) ?_
  obtain ⟨z228, e_z228, ok_z228, hf⟩ := cR_some hf
  have k_z228 := okr_in ok_z228
  refine r_getr (k := 0) cls2 fi_2_0.1 fi_2_0.2 q_291 (G.gx w) w.1 k_a0.1 k_a0.2 e_z228 (dcs_get dec_X2_init_0 18 rfl) ?_
  refine lv_iload_n G.1.1 G.1.2.1 (dcs_get dec_X2_init_0 19 rfl) rfl (lv_at hl 0 rfl) ?_
  obtain ⟨h229, hf⟩ := cG_some hf
  obtain ⟨σ230, e_σ230, hf⟩ := cL_some hf
  obtain ⟨n231, e_n231, hf⟩ := cL_some hf
  refine r_new cls10 ctf10 okt10 q_288 q_228 q_8 G w h229 ⟨Nat.le_of_ble_eq_true rfl, Nat.le_of_ble_eq_true rfl⟩ (dcs_get dec_X2_init_0 20 rfl) (fun H ad1 e232 w => ?_)
  rw [← e232 a0 k_a0.1] at hl
  rw [← e232 z228 k_z228.1]
  have k_a0 := And.intro (Nat.lt_of_lt_of_le k_a0.1 (by omega : n224 ≤ n231)) k_a0.2
  have k_z228 := And.intro (Nat.lt_of_lt_of_le k_z228.1 (by omega : n224 ≤ n231)) k_z228.2
  have k_n224 : n224 < n231 ∧ (kC n224).1 = 10 := ⟨by omega, by rw [eq_of_beq h229]⟩
  have w := Wa_nm e_n231 e_σ230 w
  generalize ad1 = ad at hl w ⊢
  clear e232
  refine lv_dup G.1.1 G.1.2.1 (dcs_get dec_X2_init_0 21 rfl) rfl ?_
  obtain ⟨n235, σ234, h233, hf⟩ := cC_some hf
  refine a_A (k_IN (As := []) (rest := [.ref (ad n224), .int (20 : Int32), .ref (ad z228)]) lb_X10_init rfl q_230 nm_290 (C_X10_init w.2.1 (w.2.2.2.2 rfl) n224 h233 k_n224) ⟨Nat.le_of_ble_eq_true rfl, Nat.le_of_ble_eq_true rfl⟩ G w rfl rfl hl.1 (Nat.le_of_ble_eq_true rfl) (dcs_get dec_X2_init_0 22 rfl) ⟨Nat.le_of_ble_eq_true rfl, Nat.le_of_ble_eq_true rfl⟩) G w (fun H locs ad1 e236 w => ?_)
  rw [← e236.2 a0 k_a0.1] at hl
  rw [← e236.2 z228 k_z228.1]
  rw [← e236.2 n224 k_n224.1]
  have k_a0 := And.intro (Nat.lt_of_lt_of_le k_a0.1 e236.1) k_a0.2
  have k_z228 := And.intro (Nat.lt_of_lt_of_le k_z228.1 e236.1) k_z228.2
  have k_n224 := And.intro (Nat.lt_of_lt_of_le k_n224.1 e236.1) k_n224.2
  generalize ad1 = ad at hl w ⊢
  clear e236
  obtain ⟨h237, hf⟩ := cG_some hf
  obtain ⟨σ238, e_σ238, hf⟩ := cL_some hf
  refine r_aast cls10 rfl (G.gx w) w.1 k_z228.1 k_z228.2 k_n224.1 k_n224.2 h237 (dcs_get dec_X2_init_0 23 rfl) (fun H locs w1 => ?_)
  have w := Wa_uP e_σ238 k_n224.1 w w1
  refine lv_iinc (v := (21 : Int32)) (lv' := [(1, .int (21 : Int32)), (0, .ref (ad a0))]) G.1.1 G.1.2.1 (dcs_get dec_X2_init_0 24 rfl) hl (k := 0) rfl (by decide) (by decide) rfl (fun ls hl => ?_)
  refine lv_goto (tgt := 25) G.1.1 G.1.2.1 (dcs_get dec_X2_init_0 25 rfl) (by decide) ?_
  refine lv_iload_n G.1.1 G.1.2.1 (dcs_get dec_X2_init_0 14 rfl) rfl (lv_at hl 0 rfl) ?_
  refine lv_bipush (v := (40 : Int32)) G.1.1 G.1.2.1 (dcs_get dec_X2_init_0 15 rfl) (by decide) ?_
  refine lv_icmp_ge (tgt := 50) G.1.1 G.1.2.1 (dcs_get dec_X2_init_0 16 rfl) (by decide) (fun hc => absurd hc (by decide)) (fun _ => ?_)
  refine lv_aload_n G.1.1 G.1.2.1 (dcs_get dec_X2_init_0 17 rfl) rfl (lv_at hl 1 rfl) ?_
  obtain ⟨z239, e_z239, ok_z239, hf⟩ := cR_some hf
  have k_z239 := okr_in ok_z239
  refine r_getr (k := 0) cls2 fi_2_0.1 fi_2_0.2 q_291 (G.gx w) w.1 k_a0.1 k_a0.2 e_z239 (dcs_get dec_X2_init_0 18 rfl) ?_
  refine lv_iload_n G.1.1 G.1.2.1 (dcs_get dec_X2_init_0 19 rfl) rfl (lv_at hl 0 rfl) ?_
  obtain ⟨h240, hf⟩ := cG_some hf
  obtain ⟨σ241, e_σ241, hf⟩ := cL_some hf
  obtain ⟨n242, e_n242, hf⟩ := cL_some hf
  refine r_new cls10 ctf10 okt10 q_288 q_228 q_8 G w h240 ⟨Nat.le_of_ble_eq_true rfl, Nat.le_of_ble_eq_true rfl⟩ (dcs_get dec_X2_init_0 20 rfl) (fun H ad1 e243 w => ?_)
  rw [← e243 a0 k_a0.1] at hl
  rw [← e243 z239 k_z239.1]
  have k_a0 := And.intro (Nat.lt_of_lt_of_le k_a0.1 (by omega : n235 ≤ n242)) k_a0.2
  have k_z239 := And.intro (Nat.lt_of_lt_of_le k_z239.1 (by omega : n235 ≤ n242)) k_z239.2
  have k_n235 : n235 < n242 ∧ (kC n235).1 = 10 := ⟨by omega, by rw [eq_of_beq h240]⟩
  have w := Wa_nm e_n242 e_σ241 w
  generalize ad1 = ad at hl w ⊢
  clear e243
  refine lv_dup G.1.1 G.1.2.1 (dcs_get dec_X2_init_0 21 rfl) rfl ?_
  obtain ⟨n246, σ245, h244, hf⟩ := cC_some hf
  refine a_A (k_IN (As := []) (rest := [.ref (ad n235), .int (21 : Int32), .ref (ad z239)]) lb_X10_init rfl q_230 nm_290 (C_X10_init w.2.1 (w.2.2.2.2 rfl) n235 h244 k_n235) ⟨Nat.le_of_ble_eq_true rfl, Nat.le_of_ble_eq_true rfl⟩ G w rfl rfl hl.1 (Nat.le_of_ble_eq_true rfl) (dcs_get dec_X2_init_0 22 rfl) ⟨Nat.le_of_ble_eq_true rfl, Nat.le_of_ble_eq_true rfl⟩) G w (fun H locs ad1 e247 w => ?_)
  rw [← e247.2 a0 k_a0.1] at hl
  rw [← e247.2 z239 k_z239.1]
  rw [← e247.2 n235 k_n235.1]
  have k_a0 := And.intro (Nat.lt_of_lt_of_le k_a0.1 e247.1) k_a0.2
  have k_z239 := And.intro (Nat.lt_of_lt_of_le k_z239.1 e247.1) k_z239.2
  have k_n235 := And.intro (Nat.lt_of_lt_of_le k_n235.1 e247.1) k_n235.2
  generalize ad1 = ad at hl w ⊢
  clear e247
  obtain ⟨h248, hf⟩ := cG_some hf
  obtain ⟨σ249, e_σ249, hf⟩ := cL_some hf
  refine r_aast cls10 rfl (G.gx w) w.1 k_z239.1 k_z239.2 k_n235.1 k_n235.2 h248 (dcs_get dec_X2_init_0 23 rfl) (fun H locs w1 => ?_)
  have w := Wa_uP e_σ249 k_n235.1 w w1
  refine lv_iinc (v := (22 : Int32)) (lv' := [(1, .int (22 : Int32)), (0, .ref (ad a0))]) G.1.1 G.1.2.1 (dcs_get dec_X2_init_0 24 rfl) hl (k := 0) rfl (by decide) (by decide) rfl (fun ls hl => ?_)
  refine lv_goto (tgt := 25) G.1.1 G.1.2.1 (dcs_get dec_X2_init_0 25 rfl) (by decide) ?_
  refine lv_iload_n G.1.1 G.1.2.1 (dcs_get dec_X2_init_0 14 rfl) rfl (lv_at hl 0 rfl) ?_
  refine lv_bipush (v := (40 : Int32)) G.1.1 G.1.2.1 (dcs_get dec_X2_init_0 15 rfl) (by decide) ?_
  refine lv_icmp_ge (tgt := 50) G.1.1 G.1.2.1 (dcs_get dec_X2_init_0 16 rfl) (by decide) (fun hc => absurd hc (by decide)) (fun _ => ?_)
  refine lv_aload_n G.1.1 G.1.2.1 (dcs_get dec_X2_init_0 17 rfl) rfl (lv_at hl 1 rfl) ?_
  obtain ⟨z250, e_z250, ok_z250, hf⟩ := cR_some hf
  have k_z250 := okr_in ok_z250
  refine r_getr (k := 0) cls2 fi_2_0.1 fi_2_0.2 q_291 (G.gx w) w.1 k_a0.1 k_a0.2 e_z250 (dcs_get dec_X2_init_0 18 rfl) ?_
  refine lv_iload_n G.1.1 G.1.2.1 (dcs_get dec_X2_init_0 19 rfl) rfl (lv_at hl 0 rfl) ?_
  obtain ⟨h251, hf⟩ := cG_some hf
  obtain ⟨σ252, e_σ252, hf⟩ := cL_some hf
  obtain ⟨n253, e_n253, hf⟩ := cL_some hf
  refine r_new cls10 ctf10 okt10 q_288 q_228 q_8 G w h251 ⟨Nat.le_of_ble_eq_true rfl, Nat.le_of_ble_eq_true rfl⟩ (dcs_get dec_X2_init_0 20 rfl) (fun H ad1 e254 w => ?_)
  rw [← e254 a0 k_a0.1] at hl
  rw [← e254 z250 k_z250.1]
  have k_a0 := And.intro (Nat.lt_of_lt_of_le k_a0.1 (by omega : n246 ≤ n253)) k_a0.2
  have k_z250 := And.intro (Nat.lt_of_lt_of_le k_z250.1 (by omega : n246 ≤ n253)) k_z250.2
  have k_n246 : n246 < n253 ∧ (kC n246).1 = 10 := ⟨by omega, by rw [eq_of_beq h251]⟩
  have w := Wa_nm e_n253 e_σ252 w
  generalize ad1 = ad at hl w ⊢
  clear e254
  refine lv_dup G.1.1 G.1.2.1 (dcs_get dec_X2_init_0 21 rfl) rfl ?_
  obtain ⟨n257, σ256, h255, hf⟩ := cC_some hf
  refine a_A (k_IN (As := []) (rest := [.ref (ad n246), .int (22 : Int32), .ref (ad z250)]) lb_X10_init rfl q_230 nm_290 (C_X10_init w.2.1 (w.2.2.2.2 rfl) n246 h255 k_n246) ⟨Nat.le_of_ble_eq_true rfl, Nat.le_of_ble_eq_true rfl⟩ G w rfl rfl hl.1 (Nat.le_of_ble_eq_true rfl) (dcs_get dec_X2_init_0 22 rfl) ⟨Nat.le_of_ble_eq_true rfl, Nat.le_of_ble_eq_true rfl⟩) G w (fun H locs ad1 e258 w => ?_)
  rw [← e258.2 a0 k_a0.1] at hl
  rw [← e258.2 n246 k_n246.1]
  rw [← e258.2 z250 k_z250.1]
  have k_a0 := And.intro (Nat.lt_of_lt_of_le k_a0.1 e258.1) k_a0.2
  have k_z250 := And.intro (Nat.lt_of_lt_of_le k_z250.1 e258.1) k_z250.2
  have k_n246 := And.intro (Nat.lt_of_lt_of_le k_n246.1 e258.1) k_n246.2
  generalize ad1 = ad at hl w ⊢
  clear e258
  obtain ⟨h259, hf⟩ := cG_some hf
  obtain ⟨σ260, e_σ260, hf⟩ := cL_some hf
  refine r_aast cls10 rfl (G.gx w) w.1 k_z250.1 k_z250.2 k_n246.1 k_n246.2 h259 (dcs_get dec_X2_init_0 23 rfl) (fun H locs w1 => ?_)
  have w := Wa_uP e_σ260 k_n246.1 w w1
  refine lv_iinc (v := (23 : Int32)) (lv' := [(1, .int (23 : Int32)), (0, .ref (ad a0))]) G.1.1 G.1.2.1 (dcs_get dec_X2_init_0 24 rfl) hl (k := 0) rfl (by decide) (by decide) rfl (fun ls hl => ?_)
  refine lv_goto (tgt := 25) G.1.1 G.1.2.1 (dcs_get dec_X2_init_0 25 rfl) (by decide) ?_
  refine lv_iload_n G.1.1 G.1.2.1 (dcs_get dec_X2_init_0 14 rfl) rfl (lv_at hl 0 rfl) ?_
  refine lv_bipush (v := (40 : Int32)) G.1.1 G.1.2.1 (dcs_get dec_X2_init_0 15 rfl) (by decide) ?_
  refine lv_icmp_ge (tgt := 50) G.1.1 G.1.2.1 (dcs_get dec_X2_init_0 16 rfl) (by decide) (fun hc => absurd hc (by decide)) (fun _ => ?_)
  refine lv_aload_n G.1.1 G.1.2.1 (dcs_get dec_X2_init_0 17 rfl) rfl (lv_at hl 1 rfl) ?_
  obtain ⟨z261, e_z261, ok_z261, hf⟩ := cR_some hf
  have k_z261 := okr_in ok_z261
  refine r_getr (k := 0) cls2 fi_2_0.1 fi_2_0.2 q_291 (G.gx w) w.1 k_a0.1 k_a0.2 e_z261 (dcs_get dec_X2_init_0 18 rfl) ?_
  refine lv_iload_n G.1.1 G.1.2.1 (dcs_get dec_X2_init_0 19 rfl) rfl (lv_at hl 0 rfl) ?_
  obtain ⟨h262, hf⟩ := cG_some hf
  obtain ⟨σ263, e_σ263, hf⟩ := cL_some hf
  obtain ⟨n264, e_n264, hf⟩ := cL_some hf
  refine r_new cls10 ctf10 okt10 q_288 q_228 q_8 G w h262 ⟨Nat.le_of_ble_eq_true rfl, Nat.le_of_ble_eq_true rfl⟩ (dcs_get dec_X2_init_0 20 rfl) (fun H ad1 e265 w => ?_)
  rw [← e265 a0 k_a0.1] at hl
  rw [← e265 z261 k_z261.1]
  have k_a0 := And.intro (Nat.lt_of_lt_of_le k_a0.1 (by omega : n257 ≤ n264)) k_a0.2
  have k_z261 := And.intro (Nat.lt_of_lt_of_le k_z261.1 (by omega : n257 ≤ n264)) k_z261.2
  have k_n257 : n257 < n264 ∧ (kC n257).1 = 10 := ⟨by omega, by rw [eq_of_beq h262]⟩
  have w := Wa_nm e_n264 e_σ263 w
  generalize ad1 = ad at hl w ⊢
  clear e265
  refine lv_dup G.1.1 G.1.2.1 (dcs_get dec_X2_init_0 21 rfl) rfl ?_
  obtain ⟨n268, σ267, h266, hf⟩ := cC_some hf
  refine a_A (k_IN (As := []) (rest := [.ref (ad n257), .int (23 : Int32), .ref (ad z261)]) lb_X10_init rfl q_230 nm_290 (C_X10_init w.2.1 (w.2.2.2.2 rfl) n257 h266 k_n257) ⟨Nat.le_of_ble_eq_true rfl, Nat.le_of_ble_eq_true rfl⟩ G w rfl rfl hl.1 (Nat.le_of_ble_eq_true rfl) (dcs_get dec_X2_init_0 22 rfl) ⟨Nat.le_of_ble_eq_true rfl, Nat.le_of_ble_eq_true rfl⟩) G w (fun H locs ad1 e269 w => ?_)
  rw [← e269.2 a0 k_a0.1] at hl
  rw [← e269.2 z261 k_z261.1]
  rw [← e269.2 n257 k_n257.1]
  have k_a0 := And.intro (Nat.lt_of_lt_of_le k_a0.1 e269.1) k_a0.2
  have k_z261 := And.intro (Nat.lt_of_lt_of_le k_z261.1 e269.1) k_z261.2
  have k_n257 := And.intro (Nat.lt_of_lt_of_le k_n257.1 e269.1) k_n257.2
  generalize ad1 = ad at hl w ⊢
  clear e269
  obtain ⟨h270, hf⟩ := cG_some hf
  obtain ⟨σ271, e_σ271, hf⟩ := cL_some hf
  refine r_aast cls10 rfl (G.gx w) w.1 k_z261.1 k_z261.2 k_n257.1 k_n257.2 h270 (dcs_get dec_X2_init_0 23 rfl) (fun H locs w1 => ?_)
  have w := Wa_uP e_σ271 k_n257.1 w w1
  refine lv_iinc (v := (24 : Int32)) (lv' := [(1, .int (24 : Int32)), (0, .ref (ad a0))]) G.1.1 G.1.2.1 (dcs_get dec_X2_init_0 24 rfl) hl (k := 0) rfl (by decide) (by decide) rfl (fun ls hl => ?_)
  refine lv_goto (tgt := 25) G.1.1 G.1.2.1 (dcs_get dec_X2_init_0 25 rfl) (by decide) ?_
  refine lv_iload_n G.1.1 G.1.2.1 (dcs_get dec_X2_init_0 14 rfl) rfl (lv_at hl 0 rfl) ?_
  refine lv_bipush (v := (40 : Int32)) G.1.1 G.1.2.1 (dcs_get dec_X2_init_0 15 rfl) (by decide) ?_
  refine lv_icmp_ge (tgt := 50) G.1.1 G.1.2.1 (dcs_get dec_X2_init_0 16 rfl) (by decide) (fun hc => absurd hc (by decide)) (fun _ => ?_)
  refine lv_aload_n G.1.1 G.1.2.1 (dcs_get dec_X2_init_0 17 rfl) rfl (lv_at hl 1 rfl) ?_
  obtain ⟨z272, e_z272, ok_z272, hf⟩ := cR_some hf
  have k_z272 := okr_in ok_z272
  refine r_getr (k := 0) cls2 fi_2_0.1 fi_2_0.2 q_291 (G.gx w) w.1 k_a0.1 k_a0.2 e_z272 (dcs_get dec_X2_init_0 18 rfl) ?_
  refine lv_iload_n G.1.1 G.1.2.1 (dcs_get dec_X2_init_0 19 rfl) rfl (lv_at hl 0 rfl) ?_
  obtain ⟨h273, hf⟩ := cG_some hf
  obtain ⟨σ274, e_σ274, hf⟩ := cL_some hf
  obtain ⟨n275, e_n275, hf⟩ := cL_some hf
  refine r_new cls10 ctf10 okt10 q_288 q_228 q_8 G w h273 ⟨Nat.le_of_ble_eq_true rfl, Nat.le_of_ble_eq_true rfl⟩ (dcs_get dec_X2_init_0 20 rfl) (fun H ad1 e276 w => ?_)
  rw [← e276 a0 k_a0.1] at hl
  rw [← e276 z272 k_z272.1]
  have k_a0 := And.intro (Nat.lt_of_lt_of_le k_a0.1 (by omega : n268 ≤ n275)) k_a0.2
  have k_z272 := And.intro (Nat.lt_of_lt_of_le k_z272.1 (by omega : n268 ≤ n275)) k_z272.2
  have k_n268 : n268 < n275 ∧ (kC n268).1 = 10 := ⟨by omega, by rw [eq_of_beq h273]⟩
  have w := Wa_nm e_n275 e_σ274 w
  generalize ad1 = ad at hl w ⊢
  clear e276
  refine lv_dup G.1.1 G.1.2.1 (dcs_get dec_X2_init_0 21 rfl) rfl ?_
  obtain ⟨n279, σ278, h277, hf⟩ := cC_some hf
  refine a_A (k_IN (As := []) (rest := [.ref (ad n268), .int (24 : Int32), .ref (ad z272)]) lb_X10_init rfl q_230 nm_290 (C_X10_init w.2.1 (w.2.2.2.2 rfl) n268 h277 k_n268) ⟨Nat.le_of_ble_eq_true rfl, Nat.le_of_ble_eq_true rfl⟩ G w rfl rfl hl.1 (Nat.le_of_ble_eq_true rfl) (dcs_get dec_X2_init_0 22 rfl) ⟨Nat.le_of_ble_eq_true rfl, Nat.le_of_ble_eq_true rfl⟩) G w (fun H locs ad1 e280 w => ?_)
  rw [← e280.2 a0 k_a0.1] at hl
  rw [← e280.2 z272 k_z272.1]
  rw [← e280.2 n268 k_n268.1]
  have k_a0 := And.intro (Nat.lt_of_lt_of_le k_a0.1 e280.1) k_a0.2
  have k_z272 := And.intro (Nat.lt_of_lt_of_le k_z272.1 e280.1) k_z272.2
  have k_n268 := And.intro (Nat.lt_of_lt_of_le k_n268.1 e280.1) k_n268.2
  generalize ad1 = ad at hl w ⊢
  clear e280
  obtain ⟨h281, hf⟩ := cG_some hf
  obtain ⟨σ282, e_σ282, hf⟩ := cL_some hf
  refine r_aast cls10 rfl (G.gx w) w.1 k_z272.1 k_z272.2 k_n268.1 k_n268.2 h281 (dcs_get dec_X2_init_0 23 rfl) (fun H locs w1 => ?_)
  have w := Wa_uP e_σ282 k_n268.1 w w1
  refine lv_iinc (v := (25 : Int32)) (lv' := [(1, .int (25 : Int32)), (0, .ref (ad a0))]) G.1.1 G.1.2.1 (dcs_get dec_X2_init_0 24 rfl) hl (k := 0) rfl (by decide) (by decide) rfl (fun ls hl => ?_)
  refine lv_goto (tgt := 25) G.1.1 G.1.2.1 (dcs_get dec_X2_init_0 25 rfl) (by decide) ?_
  refine lv_iload_n G.1.1 G.1.2.1 (dcs_get dec_X2_init_0 14 rfl) rfl (lv_at hl 0 rfl) ?_
  refine lv_bipush (v := (40 : Int32)) G.1.1 G.1.2.1 (dcs_get dec_X2_init_0 15 rfl) (by decide) ?_
  refine lv_icmp_ge (tgt := 50) G.1.1 G.1.2.1 (dcs_get dec_X2_init_0 16 rfl) (by decide) (fun hc => absurd hc (by decide)) (fun _ => ?_)
  refine lv_aload_n G.1.1 G.1.2.1 (dcs_get dec_X2_init_0 17 rfl) rfl (lv_at hl 1 rfl) ?_
  obtain ⟨z283, e_z283, ok_z283, hf⟩ := cR_some hf
  have k_z283 := okr_in ok_z283
  refine r_getr (k := 0) cls2 fi_2_0.1 fi_2_0.2 q_291 (G.gx w) w.1 k_a0.1 k_a0.2 e_z283 (dcs_get dec_X2_init_0 18 rfl) ?_
  refine lv_iload_n G.1.1 G.1.2.1 (dcs_get dec_X2_init_0 19 rfl) rfl (lv_at hl 0 rfl) ?_
  obtain ⟨h284, hf⟩ := cG_some hf
  obtain ⟨σ285, e_σ285, hf⟩ := cL_some hf
  obtain ⟨n286, e_n286, hf⟩ := cL_some hf
  refine r_new cls10 ctf10 okt10 q_288 q_228 q_8 G w h284 ⟨Nat.le_of_ble_eq_true rfl, Nat.le_of_ble_eq_true rfl⟩ (dcs_get dec_X2_init_0 20 rfl) (fun H ad1 e287 w => ?_)
  rw [← e287 a0 k_a0.1] at hl
  rw [← e287 z283 k_z283.1]
  have k_a0 := And.intro (Nat.lt_of_lt_of_le k_a0.1 (by omega : n279 ≤ n286)) k_a0.2
  have k_z283 := And.intro (Nat.lt_of_lt_of_le k_z283.1 (by omega : n279 ≤ n286)) k_z283.2
  have k_n279 : n279 < n286 ∧ (kC n279).1 = 10 := ⟨by omega, by rw [eq_of_beq h284]⟩
  have w := Wa_nm e_n286 e_σ285 w
  generalize ad1 = ad at hl w ⊢
  clear e287
  refine lv_dup G.1.1 G.1.2.1 (dcs_get dec_X2_init_0 21 rfl) rfl ?_
  obtain ⟨n290, σ289, h288, hf⟩ := cC_some hf
  refine a_A (k_IN (As := []) (rest := [.ref (ad n279), .int (25 : Int32), .ref (ad z283)]) lb_X10_init rfl q_230 nm_290 (C_X10_init w.2.1 (w.2.2.2.2 rfl) n279 h288 k_n279) ⟨Nat.le_of_ble_eq_true rfl, Nat.le_of_ble_eq_true rfl⟩ G w rfl rfl hl.1 (Nat.le_of_ble_eq_true rfl) (dcs_get dec_X2_init_0 22 rfl) ⟨Nat.le_of_ble_eq_true rfl, Nat.le_of_ble_eq_true rfl⟩) G w (fun H locs ad1 e291 w => ?_)
  rw [← e291.2 a0 k_a0.1] at hl
  rw [← e291.2 z283 k_z283.1]
  rw [← e291.2 n279 k_n279.1]
  have k_a0 := And.intro (Nat.lt_of_lt_of_le k_a0.1 e291.1) k_a0.2
  have k_z283 := And.intro (Nat.lt_of_lt_of_le k_z283.1 e291.1) k_z283.2
  have k_n279 := And.intro (Nat.lt_of_lt_of_le k_n279.1 e291.1) k_n279.2
  generalize ad1 = ad at hl w ⊢
  clear e291
  obtain ⟨h292, hf⟩ := cG_some hf
  obtain ⟨σ293, e_σ293, hf⟩ := cL_some hf
  refine r_aast cls10 rfl (G.gx w) w.1 k_z283.1 k_z283.2 k_n279.1 k_n279.2 h292 (dcs_get dec_X2_init_0 23 rfl) (fun H locs w1 => ?_)
  have w := Wa_uP e_σ293 k_n279.1 w w1
  refine lv_iinc (v := (26 : Int32)) (lv' := [(1, .int (26 : Int32)), (0, .ref (ad a0))]) G.1.1 G.1.2.1 (dcs_get dec_X2_init_0 24 rfl) hl (k := 0) rfl (by decide) (by decide) rfl (fun ls hl => ?_)
  refine lv_goto (tgt := 25) G.1.1 G.1.2.1 (dcs_get dec_X2_init_0 25 rfl) (by decide) ?_
  refine lv_iload_n G.1.1 G.1.2.1 (dcs_get dec_X2_init_0 14 rfl) rfl (lv_at hl 0 rfl) ?_
  refine lv_bipush (v := (40 : Int32)) G.1.1 G.1.2.1 (dcs_get dec_X2_init_0 15 rfl) (by decide) ?_
  refine lv_icmp_ge (tgt := 50) G.1.1 G.1.2.1 (dcs_get dec_X2_init_0 16 rfl) (by decide) (fun hc => absurd hc (by decide)) (fun _ => ?_)
  refine lv_aload_n G.1.1 G.1.2.1 (dcs_get dec_X2_init_0 17 rfl) rfl (lv_at hl 1 rfl) ?_
  obtain ⟨z294, e_z294, ok_z294, hf⟩ := cR_some hf
  have k_z294 := okr_in ok_z294
  refine r_getr (k := 0) cls2 fi_2_0.1 fi_2_0.2 q_291 (G.gx w) w.1 k_a0.1 k_a0.2 e_z294 (dcs_get dec_X2_init_0 18 rfl) ?_
  refine lv_iload_n G.1.1 G.1.2.1 (dcs_get dec_X2_init_0 19 rfl) rfl (lv_at hl 0 rfl) ?_
  obtain ⟨h295, hf⟩ := cG_some hf
  obtain ⟨σ296, e_σ296, hf⟩ := cL_some hf
  obtain ⟨n297, e_n297, hf⟩ := cL_some hf
  refine r_new cls10 ctf10 okt10 q_288 q_228 q_8 G w h295 ⟨Nat.le_of_ble_eq_true rfl, Nat.le_of_ble_eq_true rfl⟩ (dcs_get dec_X2_init_0 20 rfl) (fun H ad1 e298 w => ?_)
  rw [← e298 a0 k_a0.1] at hl
  rw [← e298 z294 k_z294.1]
  have k_a0 := And.intro (Nat.lt_of_lt_of_le k_a0.1 (by omega : n290 ≤ n297)) k_a0.2
  have k_z294 := And.intro (Nat.lt_of_lt_of_le k_z294.1 (by omega : n290 ≤ n297)) k_z294.2
  have k_n290 : n290 < n297 ∧ (kC n290).1 = 10 := ⟨by omega, by rw [eq_of_beq h295]⟩
  have w := Wa_nm e_n297 e_σ296 w
  generalize ad1 = ad at hl w ⊢
  clear e298
  refine lv_dup G.1.1 G.1.2.1 (dcs_get dec_X2_init_0 21 rfl) rfl ?_
  obtain ⟨n301, σ300, h299, hf⟩ := cC_some hf
  refine a_A (k_IN (As := []) (rest := [.ref (ad n290), .int (26 : Int32), .ref (ad z294)]) lb_X10_init rfl q_230 nm_290 (C_X10_init w.2.1 (w.2.2.2.2 rfl) n290 h299 k_n290) ⟨Nat.le_of_ble_eq_true rfl, Nat.le_of_ble_eq_true rfl⟩ G w rfl rfl hl.1 (Nat.le_of_ble_eq_true rfl) (dcs_get dec_X2_init_0 22 rfl) ⟨Nat.le_of_ble_eq_true rfl, Nat.le_of_ble_eq_true rfl⟩) G w (fun H locs ad1 e302 w => ?_)
  rw [← e302.2 a0 k_a0.1] at hl
  rw [← e302.2 z294 k_z294.1]
  rw [← e302.2 n290 k_n290.1]
  have k_a0 := And.intro (Nat.lt_of_lt_of_le k_a0.1 e302.1) k_a0.2
  have k_z294 := And.intro (Nat.lt_of_lt_of_le k_z294.1 e302.1) k_z294.2
  have k_n290 := And.intro (Nat.lt_of_lt_of_le k_n290.1 e302.1) k_n290.2
  generalize ad1 = ad at hl w ⊢
  clear e302
  obtain ⟨h303, hf⟩ := cG_some hf
  obtain ⟨σ304, e_σ304, hf⟩ := cL_some hf
  refine r_aast cls10 rfl (G.gx w) w.1 k_z294.1 k_z294.2 k_n290.1 k_n290.2 h303 (dcs_get dec_X2_init_0 23 rfl) (fun H locs w1 => ?_)
  have w := Wa_uP e_σ304 k_n290.1 w w1
  refine lv_iinc (v := (27 : Int32)) (lv' := [(1, .int (27 : Int32)), (0, .ref (ad a0))]) G.1.1 G.1.2.1 (dcs_get dec_X2_init_0 24 rfl) hl (k := 0) rfl (by decide) (by decide) rfl (fun ls hl => ?_)
  refine lv_goto (tgt := 25) G.1.1 G.1.2.1 (dcs_get dec_X2_init_0 25 rfl) (by decide) ?_
  refine lv_iload_n G.1.1 G.1.2.1 (dcs_get dec_X2_init_0 14 rfl) rfl (lv_at hl 0 rfl) ?_
  refine lv_bipush (v := (40 : Int32)) G.1.1 G.1.2.1 (dcs_get dec_X2_init_0 15 rfl) (by decide) ?_
  refine lv_icmp_ge (tgt := 50) G.1.1 G.1.2.1 (dcs_get dec_X2_init_0 16 rfl) (by decide) (fun hc => absurd hc (by decide)) (fun _ => ?_)
  refine lv_aload_n G.1.1 G.1.2.1 (dcs_get dec_X2_init_0 17 rfl) rfl (lv_at hl 1 rfl) ?_
  obtain ⟨z305, e_z305, ok_z305, hf⟩ := cR_some hf
  have k_z305 := okr_in ok_z305
  refine r_getr (k := 0) cls2 fi_2_0.1 fi_2_0.2 q_291 (G.gx w) w.1 k_a0.1 k_a0.2 e_z305 (dcs_get dec_X2_init_0 18 rfl) ?_
  refine lv_iload_n G.1.1 G.1.2.1 (dcs_get dec_X2_init_0 19 rfl) rfl (lv_at hl 0 rfl) ?_
  obtain ⟨h306, hf⟩ := cG_some hf
  obtain ⟨σ307, e_σ307, hf⟩ := cL_some hf
  obtain ⟨n308, e_n308, hf⟩ := cL_some hf
  refine r_new cls10 ctf10 okt10 q_288 q_228 q_8 G w h306 ⟨Nat.le_of_ble_eq_true rfl, Nat.le_of_ble_eq_true rfl⟩ (dcs_get dec_X2_init_0 20 rfl) (fun H ad1 e309 w => ?_)
  rw [← e309 a0 k_a0.1] at hl
  rw [← e309 z305 k_z305.1]
  have k_a0 := And.intro (Nat.lt_of_lt_of_le k_a0.1 (by omega : n301 ≤ n308)) k_a0.2
  have k_z305 := And.intro (Nat.lt_of_lt_of_le k_z305.1 (by omega : n301 ≤ n308)) k_z305.2
  have k_n301 : n301 < n308 ∧ (kC n301).1 = 10 := ⟨by omega, by rw [eq_of_beq h306]⟩
  have w := Wa_nm e_n308 e_σ307 w
  generalize ad1 = ad at hl w ⊢
  clear e309
  refine lv_dup G.1.1 G.1.2.1 (dcs_get dec_X2_init_0 21 rfl) rfl ?_
  obtain ⟨n312, σ311, h310, hf⟩ := cC_some hf
  refine a_A (k_IN (As := []) (rest := [.ref (ad n301), .int (27 : Int32), .ref (ad z305)]) lb_X10_init rfl q_230 nm_290 (C_X10_init w.2.1 (w.2.2.2.2 rfl) n301 h310 k_n301) ⟨Nat.le_of_ble_eq_true rfl, Nat.le_of_ble_eq_true rfl⟩ G w rfl rfl hl.1 (Nat.le_of_ble_eq_true rfl) (dcs_get dec_X2_init_0 22 rfl) ⟨Nat.le_of_ble_eq_true rfl, Nat.le_of_ble_eq_true rfl⟩) G w (fun H locs ad1 e313 w => ?_)
  rw [← e313.2 a0 k_a0.1] at hl
  rw [← e313.2 z305 k_z305.1]
  rw [← e313.2 n301 k_n301.1]
  have k_a0 := And.intro (Nat.lt_of_lt_of_le k_a0.1 e313.1) k_a0.2
  have k_z305 := And.intro (Nat.lt_of_lt_of_le k_z305.1 e313.1) k_z305.2
  have k_n301 := And.intro (Nat.lt_of_lt_of_le k_n301.1 e313.1) k_n301.2
  generalize ad1 = ad at hl w ⊢
  clear e313
  obtain ⟨h314, hf⟩ := cG_some hf
  obtain ⟨σ315, e_σ315, hf⟩ := cL_some hf
  refine r_aast cls10 rfl (G.gx w) w.1 k_z305.1 k_z305.2 k_n301.1 k_n301.2 h314 (dcs_get dec_X2_init_0 23 rfl) (fun H locs w1 => ?_)
  have w := Wa_uP e_σ315 k_n301.1 w w1
  refine lv_iinc (v := (28 : Int32)) (lv' := [(1, .int (28 : Int32)), (0, .ref (ad a0))]) G.1.1 G.1.2.1 (dcs_get dec_X2_init_0 24 rfl) hl (k := 0) rfl (by decide) (by decide) rfl (fun ls hl => ?_)
  refine lv_goto (tgt := 25) G.1.1 G.1.2.1 (dcs_get dec_X2_init_0 25 rfl) (by decide) ?_
  refine lv_iload_n G.1.1 G.1.2.1 (dcs_get dec_X2_init_0 14 rfl) rfl (lv_at hl 0 rfl) ?_
  refine lv_bipush (v := (40 : Int32)) G.1.1 G.1.2.1 (dcs_get dec_X2_init_0 15 rfl) (by decide) ?_
  refine lv_icmp_ge (tgt := 50) G.1.1 G.1.2.1 (dcs_get dec_X2_init_0 16 rfl) (by decide) (fun hc => absurd hc (by decide)) (fun _ => ?_)
  refine lv_aload_n G.1.1 G.1.2.1 (dcs_get dec_X2_init_0 17 rfl) rfl (lv_at hl 1 rfl) ?_
  obtain ⟨z316, e_z316, ok_z316, hf⟩ := cR_some hf
  have k_z316 := okr_in ok_z316
  refine r_getr (k := 0) cls2 fi_2_0.1 fi_2_0.2 q_291 (G.gx w) w.1 k_a0.1 k_a0.2 e_z316 (dcs_get dec_X2_init_0 18 rfl) ?_
  refine lv_iload_n G.1.1 G.1.2.1 (dcs_get dec_X2_init_0 19 rfl) rfl (lv_at hl 0 rfl) ?_
  obtain ⟨h317, hf⟩ := cG_some hf
  obtain ⟨σ318, e_σ318, hf⟩ := cL_some hf
  obtain ⟨n319, e_n319, hf⟩ := cL_some hf
  refine r_new cls10 ctf10 okt10 q_288 q_228 q_8 G w h317 ⟨Nat.le_of_ble_eq_true rfl, Nat.le_of_ble_eq_true rfl⟩ (dcs_get dec_X2_init_0 20 rfl) (fun H ad1 e320 w => ?_)
  rw [← e320 a0 k_a0.1] at hl
  rw [← e320 z316 k_z316.1]
  have k_a0 := And.intro (Nat.lt_of_lt_of_le k_a0.1 (by omega : n312 ≤ n319)) k_a0.2
  have k_z316 := And.intro (Nat.lt_of_lt_of_le k_z316.1 (by omega : n312 ≤ n319)) k_z316.2
  have k_n312 : n312 < n319 ∧ (kC n312).1 = 10 := ⟨by omega, by rw [eq_of_beq h317]⟩
  have w := Wa_nm e_n319 e_σ318 w
  generalize ad1 = ad at hl w ⊢
  clear e320
  refine lv_dup G.1.1 G.1.2.1 (dcs_get dec_X2_init_0 21 rfl) rfl ?_
  obtain ⟨n323, σ322, h321, hf⟩ := cC_some hf
  refine a_A (k_IN (As := []) (rest := [.ref (ad n312), .int (28 : Int32), .ref (ad z316)]) lb_X10_init rfl q_230 nm_290 (C_X10_init w.2.1 (w.2.2.2.2 rfl) n312 h321 k_n312) ⟨Nat.le_of_ble_eq_true rfl, Nat.le_of_ble_eq_true rfl⟩ G w rfl rfl hl.1 (Nat.le_of_ble_eq_true rfl) (dcs_get dec_X2_init_0 22 rfl) ⟨Nat.le_of_ble_eq_true rfl, Nat.le_of_ble_eq_true rfl⟩) G w (fun H locs ad1 e324 w => ?_)
  rw [← e324.2 a0 k_a0.1] at hl
  rw [← e324.2 z316 k_z316.1]
  rw [← e324.2 n312 k_n312.1]
  have k_a0 := And.intro (Nat.lt_of_lt_of_le k_a0.1 e324.1) k_a0.2
  have k_z316 := And.intro (Nat.lt_of_lt_of_le k_z316.1 e324.1) k_z316.2
  have k_n312 := And.intro (Nat.lt_of_lt_of_le k_n312.1 e324.1) k_n312.2
  generalize ad1 = ad at hl w ⊢
  clear e324
  obtain ⟨h325, hf⟩ := cG_some hf
  obtain ⟨σ326, e_σ326, hf⟩ := cL_some hf
  refine r_aast cls10 rfl (G.gx w) w.1 k_z316.1 k_z316.2 k_n312.1 k_n312.2 h325 (dcs_get dec_X2_init_0 23 rfl) (fun H locs w1 => ?_)
  have w := Wa_uP e_σ326 k_n312.1 w w1
  refine lv_iinc (v := (29 : Int32)) (lv' := [(1, .int (29 : Int32)), (0, .ref (ad a0))]) G.1.1 G.1.2.1 (dcs_get dec_X2_init_0 24 rfl) hl (k := 0) rfl (by decide) (by decide) rfl (fun ls hl => ?_)
  refine lv_goto (tgt := 25) G.1.1 G.1.2.1 (dcs_get dec_X2_init_0 25 rfl) (by decide) ?_
  refine lv_iload_n G.1.1 G.1.2.1 (dcs_get dec_X2_init_0 14 rfl) rfl (lv_at hl 0 rfl) ?_
  refine lv_bipush (v := (40 : Int32)) G.1.1 G.1.2.1 (dcs_get dec_X2_init_0 15 rfl) (by decide) ?_
  refine lv_icmp_ge (tgt := 50) G.1.1 G.1.2.1 (dcs_get dec_X2_init_0 16 rfl) (by decide) (fun hc => absurd hc (by decide)) (fun _ => ?_)
  refine lv_aload_n G.1.1 G.1.2.1 (dcs_get dec_X2_init_0 17 rfl) rfl (lv_at hl 1 rfl) ?_
  obtain ⟨z327, e_z327, ok_z327, hf⟩ := cR_some hf
  have k_z327 := okr_in ok_z327
  refine r_getr (k := 0) cls2 fi_2_0.1 fi_2_0.2 q_291 (G.gx w) w.1 k_a0.1 k_a0.2 e_z327 (dcs_get dec_X2_init_0 18 rfl) ?_
  refine lv_iload_n G.1.1 G.1.2.1 (dcs_get dec_X2_init_0 19 rfl) rfl (lv_at hl 0 rfl) ?_
  obtain ⟨h328, hf⟩ := cG_some hf
  obtain ⟨σ329, e_σ329, hf⟩ := cL_some hf
  obtain ⟨n330, e_n330, hf⟩ := cL_some hf
  refine r_new cls10 ctf10 okt10 q_288 q_228 q_8 G w h328 ⟨Nat.le_of_ble_eq_true rfl, Nat.le_of_ble_eq_true rfl⟩ (dcs_get dec_X2_init_0 20 rfl) (fun H ad1 e331 w => ?_)
  rw [← e331 a0 k_a0.1] at hl
  rw [← e331 z327 k_z327.1]
  have k_a0 := And.intro (Nat.lt_of_lt_of_le k_a0.1 (by omega : n323 ≤ n330)) k_a0.2
  have k_z327 := And.intro (Nat.lt_of_lt_of_le k_z327.1 (by omega : n323 ≤ n330)) k_z327.2
  have k_n323 : n323 < n330 ∧ (kC n323).1 = 10 := ⟨by omega, by rw [eq_of_beq h328]⟩
  have w := Wa_nm e_n330 e_σ329 w
  generalize ad1 = ad at hl w ⊢
  clear e331
  refine lv_dup G.1.1 G.1.2.1 (dcs_get dec_X2_init_0 21 rfl) rfl ?_
  obtain ⟨n334, σ333, h332, hf⟩ := cC_some hf
  refine a_A (k_IN (As := []) (rest := [.ref (ad n323), .int (29 : Int32), .ref (ad z327)]) lb_X10_init rfl q_230 nm_290 (C_X10_init w.2.1 (w.2.2.2.2 rfl) n323 h332 k_n323) ⟨Nat.le_of_ble_eq_true rfl, Nat.le_of_ble_eq_true rfl⟩ G w rfl rfl hl.1 (Nat.le_of_ble_eq_true rfl) (dcs_get dec_X2_init_0 22 rfl) ⟨Nat.le_of_ble_eq_true rfl, Nat.le_of_ble_eq_true rfl⟩) G w (fun H locs ad1 e335 w => ?_)
  rw [← e335.2 a0 k_a0.1] at hl
  rw [← e335.2 z327 k_z327.1]
  rw [← e335.2 n323 k_n323.1]
  have k_a0 := And.intro (Nat.lt_of_lt_of_le k_a0.1 e335.1) k_a0.2
  have k_z327 := And.intro (Nat.lt_of_lt_of_le k_z327.1 e335.1) k_z327.2
  have k_n323 := And.intro (Nat.lt_of_lt_of_le k_n323.1 e335.1) k_n323.2
  generalize ad1 = ad at hl w ⊢
  clear e335
  obtain ⟨h336, hf⟩ := cG_some hf
  obtain ⟨σ337, e_σ337, hf⟩ := cL_some hf
  refine r_aast cls10 rfl (G.gx w) w.1 k_z327.1 k_z327.2 k_n323.1 k_n323.2 h336 (dcs_get dec_X2_init_0 23 rfl) (fun H locs w1 => ?_)
  have w := Wa_uP e_σ337 k_n323.1 w w1
  refine lv_iinc (v := (30 : Int32)) (lv' := [(1, .int (30 : Int32)), (0, .ref (ad a0))]) G.1.1 G.1.2.1 (dcs_get dec_X2_init_0 24 rfl) hl (k := 0) rfl (by decide) (by decide) rfl (fun ls hl => ?_)
  refine lv_goto (tgt := 25) G.1.1 G.1.2.1 (dcs_get dec_X2_init_0 25 rfl) (by decide) ?_
  refine lv_iload_n G.1.1 G.1.2.1 (dcs_get dec_X2_init_0 14 rfl) rfl (lv_at hl 0 rfl) ?_
  refine lv_bipush (v := (40 : Int32)) G.1.1 G.1.2.1 (dcs_get dec_X2_init_0 15 rfl) (by decide) ?_
  refine lv_icmp_ge (tgt := 50) G.1.1 G.1.2.1 (dcs_get dec_X2_init_0 16 rfl) (by decide) (fun hc => absurd hc (by decide)) (fun _ => ?_)
  refine lv_aload_n G.1.1 G.1.2.1 (dcs_get dec_X2_init_0 17 rfl) rfl (lv_at hl 1 rfl) ?_
  obtain ⟨z338, e_z338, ok_z338, hf⟩ := cR_some hf
  have k_z338 := okr_in ok_z338
  refine r_getr (k := 0) cls2 fi_2_0.1 fi_2_0.2 q_291 (G.gx w) w.1 k_a0.1 k_a0.2 e_z338 (dcs_get dec_X2_init_0 18 rfl) ?_
  refine lv_iload_n G.1.1 G.1.2.1 (dcs_get dec_X2_init_0 19 rfl) rfl (lv_at hl 0 rfl) ?_
  obtain ⟨h339, hf⟩ := cG_some hf
  obtain ⟨σ340, e_σ340, hf⟩ := cL_some hf
  obtain ⟨n341, e_n341, hf⟩ := cL_some hf
  refine r_new cls10 ctf10 okt10 q_288 q_228 q_8 G w h339 ⟨Nat.le_of_ble_eq_true rfl, Nat.le_of_ble_eq_true rfl⟩ (dcs_get dec_X2_init_0 20 rfl) (fun H ad1 e342 w => ?_)
  rw [← e342 a0 k_a0.1] at hl
  rw [← e342 z338 k_z338.1]
  have k_a0 := And.intro (Nat.lt_of_lt_of_le k_a0.1 (by omega : n334 ≤ n341)) k_a0.2
  have k_z338 := And.intro (Nat.lt_of_lt_of_le k_z338.1 (by omega : n334 ≤ n341)) k_z338.2
  have k_n334 : n334 < n341 ∧ (kC n334).1 = 10 := ⟨by omega, by rw [eq_of_beq h339]⟩
  have w := Wa_nm e_n341 e_σ340 w
  generalize ad1 = ad at hl w ⊢
  clear e342
  refine lv_dup G.1.1 G.1.2.1 (dcs_get dec_X2_init_0 21 rfl) rfl ?_
  obtain ⟨n345, σ344, h343, hf⟩ := cC_some hf
  refine a_A (k_IN (As := []) (rest := [.ref (ad n334), .int (30 : Int32), .ref (ad z338)]) lb_X10_init rfl q_230 nm_290 (C_X10_init w.2.1 (w.2.2.2.2 rfl) n334 h343 k_n334) ⟨Nat.le_of_ble_eq_true rfl, Nat.le_of_ble_eq_true rfl⟩ G w rfl rfl hl.1 (Nat.le_of_ble_eq_true rfl) (dcs_get dec_X2_init_0 22 rfl) ⟨Nat.le_of_ble_eq_true rfl, Nat.le_of_ble_eq_true rfl⟩) G w (fun H locs ad1 e346 w => ?_)
  rw [← e346.2 a0 k_a0.1] at hl
  rw [← e346.2 n334 k_n334.1]
  rw [← e346.2 z338 k_z338.1]
  have k_a0 := And.intro (Nat.lt_of_lt_of_le k_a0.1 e346.1) k_a0.2
  have k_z338 := And.intro (Nat.lt_of_lt_of_le k_z338.1 e346.1) k_z338.2
  have k_n334 := And.intro (Nat.lt_of_lt_of_le k_n334.1 e346.1) k_n334.2
  generalize ad1 = ad at hl w ⊢
  clear e346
  obtain ⟨h347, hf⟩ := cG_some hf
  obtain ⟨σ348, e_σ348, hf⟩ := cL_some hf
  refine r_aast cls10 rfl (G.gx w) w.1 k_z338.1 k_z338.2 k_n334.1 k_n334.2 h347 (dcs_get dec_X2_init_0 23 rfl) (fun H locs w1 => ?_)
  have w := Wa_uP e_σ348 k_n334.1 w w1
  refine lv_iinc (v := (31 : Int32)) (lv' := [(1, .int (31 : Int32)), (0, .ref (ad a0))]) G.1.1 G.1.2.1 (dcs_get dec_X2_init_0 24 rfl) hl (k := 0) rfl (by decide) (by decide) rfl (fun ls hl => ?_)
  refine lv_goto (tgt := 25) G.1.1 G.1.2.1 (dcs_get dec_X2_init_0 25 rfl) (by decide) ?_
  refine lv_iload_n G.1.1 G.1.2.1 (dcs_get dec_X2_init_0 14 rfl) rfl (lv_at hl 0 rfl) ?_
  refine lv_bipush (v := (40 : Int32)) G.1.1 G.1.2.1 (dcs_get dec_X2_init_0 15 rfl) (by decide) ?_
  refine lv_icmp_ge (tgt := 50) G.1.1 G.1.2.1 (dcs_get dec_X2_init_0 16 rfl) (by decide) (fun hc => absurd hc (by decide)) (fun _ => ?_)
  refine lv_aload_n G.1.1 G.1.2.1 (dcs_get dec_X2_init_0 17 rfl) rfl (lv_at hl 1 rfl) ?_
  obtain ⟨z349, e_z349, ok_z349, hf⟩ := cR_some hf
  have k_z349 := okr_in ok_z349
  refine r_getr (k := 0) cls2 fi_2_0.1 fi_2_0.2 q_291 (G.gx w) w.1 k_a0.1 k_a0.2 e_z349 (dcs_get dec_X2_init_0 18 rfl) ?_
  refine lv_iload_n G.1.1 G.1.2.1 (dcs_get dec_X2_init_0 19 rfl) rfl (lv_at hl 0 rfl) ?_
  obtain ⟨h350, hf⟩ := cG_some hf
  obtain ⟨σ351, e_σ351, hf⟩ := cL_some hf
  obtain ⟨n352, e_n352, hf⟩ := cL_some hf
  refine r_new cls10 ctf10 okt10 q_288 q_228 q_8 G w h350 ⟨Nat.le_of_ble_eq_true rfl, Nat.le_of_ble_eq_true rfl⟩ (dcs_get dec_X2_init_0 20 rfl) (fun H ad1 e353 w => ?_)
  rw [← e353 a0 k_a0.1] at hl
  rw [← e353 z349 k_z349.1]
  have k_a0 := And.intro (Nat.lt_of_lt_of_le k_a0.1 (by omega : n345 ≤ n352)) k_a0.2
  have k_z349 := And.intro (Nat.lt_of_lt_of_le k_z349.1 (by omega : n345 ≤ n352)) k_z349.2
  have k_n345 : n345 < n352 ∧ (kC n345).1 = 10 := ⟨by omega, by rw [eq_of_beq h350]⟩
  have w := Wa_nm e_n352 e_σ351 w
  generalize ad1 = ad at hl w ⊢
  clear e353
  refine lv_dup G.1.1 G.1.2.1 (dcs_get dec_X2_init_0 21 rfl) rfl ?_
  obtain ⟨n356, σ355, h354, hf⟩ := cC_some hf
  refine a_A (k_IN (As := []) (rest := [.ref (ad n345), .int (31 : Int32), .ref (ad z349)]) lb_X10_init rfl q_230 nm_290 (C_X10_init w.2.1 (w.2.2.2.2 rfl) n345 h354 k_n345) ⟨Nat.le_of_ble_eq_true rfl, Nat.le_of_ble_eq_true rfl⟩ G w rfl rfl hl.1 (Nat.le_of_ble_eq_true rfl) (dcs_get dec_X2_init_0 22 rfl) ⟨Nat.le_of_ble_eq_true rfl, Nat.le_of_ble_eq_true rfl⟩) G w (fun H locs ad1 e357 w => ?_)
  rw [← e357.2 a0 k_a0.1] at hl
  rw [← e357.2 z349 k_z349.1]
  rw [← e357.2 n345 k_n345.1]
  have k_a0 := And.intro (Nat.lt_of_lt_of_le k_a0.1 e357.1) k_a0.2
  have k_z349 := And.intro (Nat.lt_of_lt_of_le k_z349.1 e357.1) k_z349.2
  have k_n345 := And.intro (Nat.lt_of_lt_of_le k_n345.1 e357.1) k_n345.2
  generalize ad1 = ad at hl w ⊢
  clear e357
  obtain ⟨h358, hf⟩ := cG_some hf
  obtain ⟨σ359, e_σ359, hf⟩ := cL_some hf
  refine r_aast cls10 rfl (G.gx w) w.1 k_z349.1 k_z349.2 k_n345.1 k_n345.2 h358 (dcs_get dec_X2_init_0 23 rfl) (fun H locs w1 => ?_)
  have w := Wa_uP e_σ359 k_n345.1 w w1
  refine lv_iinc (v := (32 : Int32)) (lv' := [(1, .int (32 : Int32)), (0, .ref (ad a0))]) G.1.1 G.1.2.1 (dcs_get dec_X2_init_0 24 rfl) hl (k := 0) rfl (by decide) (by decide) rfl (fun ls hl => ?_)
  refine lv_goto (tgt := 25) G.1.1 G.1.2.1 (dcs_get dec_X2_init_0 25 rfl) (by decide) ?_
  refine lv_iload_n G.1.1 G.1.2.1 (dcs_get dec_X2_init_0 14 rfl) rfl (lv_at hl 0 rfl) ?_
  refine lv_bipush (v := (40 : Int32)) G.1.1 G.1.2.1 (dcs_get dec_X2_init_0 15 rfl) (by decide) ?_
  refine lv_icmp_ge (tgt := 50) G.1.1 G.1.2.1 (dcs_get dec_X2_init_0 16 rfl) (by decide) (fun hc => absurd hc (by decide)) (fun _ => ?_)
  refine lv_aload_n G.1.1 G.1.2.1 (dcs_get dec_X2_init_0 17 rfl) rfl (lv_at hl 1 rfl) ?_
  obtain ⟨z360, e_z360, ok_z360, hf⟩ := cR_some hf
  have k_z360 := okr_in ok_z360
  refine r_getr (k := 0) cls2 fi_2_0.1 fi_2_0.2 q_291 (G.gx w) w.1 k_a0.1 k_a0.2 e_z360 (dcs_get dec_X2_init_0 18 rfl) ?_
  refine lv_iload_n G.1.1 G.1.2.1 (dcs_get dec_X2_init_0 19 rfl) rfl (lv_at hl 0 rfl) ?_
  obtain ⟨h361, hf⟩ := cG_some hf
  obtain ⟨σ362, e_σ362, hf⟩ := cL_some hf
  obtain ⟨n363, e_n363, hf⟩ := cL_some hf
  refine r_new cls10 ctf10 okt10 q_288 q_228 q_8 G w h361 ⟨Nat.le_of_ble_eq_true rfl, Nat.le_of_ble_eq_true rfl⟩ (dcs_get dec_X2_init_0 20 rfl) (fun H ad1 e364 w => ?_)
  rw [← e364 a0 k_a0.1] at hl
  rw [← e364 z360 k_z360.1]
  have k_a0 := And.intro (Nat.lt_of_lt_of_le k_a0.1 (by omega : n356 ≤ n363)) k_a0.2
  have k_z360 := And.intro (Nat.lt_of_lt_of_le k_z360.1 (by omega : n356 ≤ n363)) k_z360.2
  have k_n356 : n356 < n363 ∧ (kC n356).1 = 10 := ⟨by omega, by rw [eq_of_beq h361]⟩
  have w := Wa_nm e_n363 e_σ362 w
  generalize ad1 = ad at hl w ⊢
  clear e364
  refine lv_dup G.1.1 G.1.2.1 (dcs_get dec_X2_init_0 21 rfl) rfl ?_
  obtain ⟨n367, σ366, h365, hf⟩ := cC_some hf
  refine a_A (k_IN (As := []) (rest := [.ref (ad n356), .int (32 : Int32), .ref (ad z360)]) lb_X10_init rfl q_230 nm_290 (C_X10_init w.2.1 (w.2.2.2.2 rfl) n356 h365 k_n356) ⟨Nat.le_of_ble_eq_true rfl, Nat.le_of_ble_eq_true rfl⟩ G w rfl rfl hl.1 (Nat.le_of_ble_eq_true rfl) (dcs_get dec_X2_init_0 22 rfl) ⟨Nat.le_of_ble_eq_true rfl, Nat.le_of_ble_eq_true rfl⟩) G w (fun H locs ad1 e368 w => ?_)
  rw [← e368.2 a0 k_a0.1] at hl
  rw [← e368.2 n356 k_n356.1]
  rw [← e368.2 z360 k_z360.1]
  have k_a0 := And.intro (Nat.lt_of_lt_of_le k_a0.1 e368.1) k_a0.2
  have k_z360 := And.intro (Nat.lt_of_lt_of_le k_z360.1 e368.1) k_z360.2
  have k_n356 := And.intro (Nat.lt_of_lt_of_le k_n356.1 e368.1) k_n356.2
  generalize ad1 = ad at hl w ⊢
  clear e368
  obtain ⟨h369, hf⟩ := cG_some hf
  obtain ⟨σ370, e_σ370, hf⟩ := cL_some hf
  refine r_aast cls10 rfl (G.gx w) w.1 k_z360.1 k_z360.2 k_n356.1 k_n356.2 h369 (dcs_get dec_X2_init_0 23 rfl) (fun H locs w1 => ?_)
  have w := Wa_uP e_σ370 k_n356.1 w w1
  refine lv_iinc (v := (33 : Int32)) (lv' := [(1, .int (33 : Int32)), (0, .ref (ad a0))]) G.1.1 G.1.2.1 (dcs_get dec_X2_init_0 24 rfl) hl (k := 0) rfl (by decide) (by decide) rfl (fun ls hl => ?_)
  refine lv_goto (tgt := 25) G.1.1 G.1.2.1 (dcs_get dec_X2_init_0 25 rfl) (by decide) ?_
  refine lv_iload_n G.1.1 G.1.2.1 (dcs_get dec_X2_init_0 14 rfl) rfl (lv_at hl 0 rfl) ?_
  refine lv_bipush (v := (40 : Int32)) G.1.1 G.1.2.1 (dcs_get dec_X2_init_0 15 rfl) (by decide) ?_
  refine lv_icmp_ge (tgt := 50) G.1.1 G.1.2.1 (dcs_get dec_X2_init_0 16 rfl) (by decide) (fun hc => absurd hc (by decide)) (fun _ => ?_)
  refine lv_aload_n G.1.1 G.1.2.1 (dcs_get dec_X2_init_0 17 rfl) rfl (lv_at hl 1 rfl) ?_
  obtain ⟨z371, e_z371, ok_z371, hf⟩ := cR_some hf
  have k_z371 := okr_in ok_z371
  refine r_getr (k := 0) cls2 fi_2_0.1 fi_2_0.2 q_291 (G.gx w) w.1 k_a0.1 k_a0.2 e_z371 (dcs_get dec_X2_init_0 18 rfl) ?_
  refine lv_iload_n G.1.1 G.1.2.1 (dcs_get dec_X2_init_0 19 rfl) rfl (lv_at hl 0 rfl) ?_
  obtain ⟨h372, hf⟩ := cG_some hf
  obtain ⟨σ373, e_σ373, hf⟩ := cL_some hf
  obtain ⟨n374, e_n374, hf⟩ := cL_some hf
  refine r_new cls10 ctf10 okt10 q_288 q_228 q_8 G w h372 ⟨Nat.le_of_ble_eq_true rfl, Nat.le_of_ble_eq_true rfl⟩ (dcs_get dec_X2_init_0 20 rfl) (fun H ad1 e375 w => ?_)
  rw [← e375 a0 k_a0.1] at hl
  rw [← e375 z371 k_z371.1]
  have k_a0 := And.intro (Nat.lt_of_lt_of_le k_a0.1 (by omega : n367 ≤ n374)) k_a0.2
  have k_z371 := And.intro (Nat.lt_of_lt_of_le k_z371.1 (by omega : n367 ≤ n374)) k_z371.2
  have k_n367 : n367 < n374 ∧ (kC n367).1 = 10 := ⟨by omega, by rw [eq_of_beq h372]⟩
  have w := Wa_nm e_n374 e_σ373 w
  generalize ad1 = ad at hl w ⊢
  clear e375
  refine lv_dup G.1.1 G.1.2.1 (dcs_get dec_X2_init_0 21 rfl) rfl ?_
  obtain ⟨n378, σ377, h376, hf⟩ := cC_some hf
  refine a_A (k_IN (As := []) (rest := [.ref (ad n367), .int (33 : Int32), .ref (ad z371)]) lb_X10_init rfl q_230 nm_290 (C_X10_init w.2.1 (w.2.2.2.2 rfl) n367 h376 k_n367) ⟨Nat.le_of_ble_eq_true rfl, Nat.le_of_ble_eq_true rfl⟩ G w rfl rfl hl.1 (Nat.le_of_ble_eq_true rfl) (dcs_get dec_X2_init_0 22 rfl) ⟨Nat.le_of_ble_eq_true rfl, Nat.le_of_ble_eq_true rfl⟩) G w (fun H locs ad1 e379 w => ?_)
  rw [← e379.2 a0 k_a0.1] at hl
  rw [← e379.2 z371 k_z371.1]
  rw [← e379.2 n367 k_n367.1]
  have k_a0 := And.intro (Nat.lt_of_lt_of_le k_a0.1 e379.1) k_a0.2
  have k_z371 := And.intro (Nat.lt_of_lt_of_le k_z371.1 e379.1) k_z371.2
  have k_n367 := And.intro (Nat.lt_of_lt_of_le k_n367.1 e379.1) k_n367.2
  generalize ad1 = ad at hl w ⊢
  clear e379
  obtain ⟨h380, hf⟩ := cG_some hf
  obtain ⟨σ381, e_σ381, hf⟩ := cL_some hf
  refine r_aast cls10 rfl (G.gx w) w.1 k_z371.1 k_z371.2 k_n367.1 k_n367.2 h380 (dcs_get dec_X2_init_0 23 rfl) (fun H locs w1 => ?_)
  have w := Wa_uP e_σ381 k_n367.1 w w1
  refine lv_iinc (v := (34 : Int32)) (lv' := [(1, .int (34 : Int32)), (0, .ref (ad a0))]) G.1.1 G.1.2.1 (dcs_get dec_X2_init_0 24 rfl) hl (k := 0) rfl (by decide) (by decide) rfl (fun ls hl => ?_)
  refine lv_goto (tgt := 25) G.1.1 G.1.2.1 (dcs_get dec_X2_init_0 25 rfl) (by decide) ?_
  refine lv_iload_n G.1.1 G.1.2.1 (dcs_get dec_X2_init_0 14 rfl) rfl (lv_at hl 0 rfl) ?_
  refine lv_bipush (v := (40 : Int32)) G.1.1 G.1.2.1 (dcs_get dec_X2_init_0 15 rfl) (by decide) ?_
  refine lv_icmp_ge (tgt := 50) G.1.1 G.1.2.1 (dcs_get dec_X2_init_0 16 rfl) (by decide) (fun hc => absurd hc (by decide)) (fun _ => ?_)
  refine lv_aload_n G.1.1 G.1.2.1 (dcs_get dec_X2_init_0 17 rfl) rfl (lv_at hl 1 rfl) ?_
  obtain ⟨z382, e_z382, ok_z382, hf⟩ := cR_some hf
  have k_z382 := okr_in ok_z382
  refine r_getr (k := 0) cls2 fi_2_0.1 fi_2_0.2 q_291 (G.gx w) w.1 k_a0.1 k_a0.2 e_z382 (dcs_get dec_X2_init_0 18 rfl) ?_
  refine lv_iload_n G.1.1 G.1.2.1 (dcs_get dec_X2_init_0 19 rfl) rfl (lv_at hl 0 rfl) ?_
  obtain ⟨h383, hf⟩ := cG_some hf
  obtain ⟨σ384, e_σ384, hf⟩ := cL_some hf
  obtain ⟨n385, e_n385, hf⟩ := cL_some hf
  refine r_new cls10 ctf10 okt10 q_288 q_228 q_8 G w h383 ⟨Nat.le_of_ble_eq_true rfl, Nat.le_of_ble_eq_true rfl⟩ (dcs_get dec_X2_init_0 20 rfl) (fun H ad1 e386 w => ?_)
  rw [← e386 a0 k_a0.1] at hl
  rw [← e386 z382 k_z382.1]
  have k_a0 := And.intro (Nat.lt_of_lt_of_le k_a0.1 (by omega : n378 ≤ n385)) k_a0.2
  have k_z382 := And.intro (Nat.lt_of_lt_of_le k_z382.1 (by omega : n378 ≤ n385)) k_z382.2
  have k_n378 : n378 < n385 ∧ (kC n378).1 = 10 := ⟨by omega, by rw [eq_of_beq h383]⟩
  have w := Wa_nm e_n385 e_σ384 w
  generalize ad1 = ad at hl w ⊢
  clear e386
  refine lv_dup G.1.1 G.1.2.1 (dcs_get dec_X2_init_0 21 rfl) rfl ?_
  obtain ⟨n389, σ388, h387, hf⟩ := cC_some hf
  refine a_A (k_IN (As := []) (rest := [.ref (ad n378), .int (34 : Int32), .ref (ad z382)]) lb_X10_init rfl q_230 nm_290 (C_X10_init w.2.1 (w.2.2.2.2 rfl) n378 h387 k_n378) ⟨Nat.le_of_ble_eq_true rfl, Nat.le_of_ble_eq_true rfl⟩ G w rfl rfl hl.1 (Nat.le_of_ble_eq_true rfl) (dcs_get dec_X2_init_0 22 rfl) ⟨Nat.le_of_ble_eq_true rfl, Nat.le_of_ble_eq_true rfl⟩) G w (fun H locs ad1 e390 w => ?_)
  rw [← e390.2 a0 k_a0.1] at hl
  rw [← e390.2 n378 k_n378.1]
  rw [← e390.2 z382 k_z382.1]
  have k_a0 := And.intro (Nat.lt_of_lt_of_le k_a0.1 e390.1) k_a0.2
  have k_z382 := And.intro (Nat.lt_of_lt_of_le k_z382.1 e390.1) k_z382.2
  have k_n378 := And.intro (Nat.lt_of_lt_of_le k_n378.1 e390.1) k_n378.2
  generalize ad1 = ad at hl w ⊢
  clear e390
  obtain ⟨h391, hf⟩ := cG_some hf
  obtain ⟨σ392, e_σ392, hf⟩ := cL_some hf
  refine r_aast cls10 rfl (G.gx w) w.1 k_z382.1 k_z382.2 k_n378.1 k_n378.2 h391 (dcs_get dec_X2_init_0 23 rfl) (fun H locs w1 => ?_)
  have w := Wa_uP e_σ392 k_n378.1 w w1
  refine lv_iinc (v := (35 : Int32)) (lv' := [(1, .int (35 : Int32)), (0, .ref (ad a0))]) G.1.1 G.1.2.1 (dcs_get dec_X2_init_0 24 rfl) hl (k := 0) rfl (by decide) (by decide) rfl (fun ls hl => ?_)
  refine lv_goto (tgt := 25) G.1.1 G.1.2.1 (dcs_get dec_X2_init_0 25 rfl) (by decide) ?_
  refine lv_iload_n G.1.1 G.1.2.1 (dcs_get dec_X2_init_0 14 rfl) rfl (lv_at hl 0 rfl) ?_
  refine lv_bipush (v := (40 : Int32)) G.1.1 G.1.2.1 (dcs_get dec_X2_init_0 15 rfl) (by decide) ?_
  refine lv_icmp_ge (tgt := 50) G.1.1 G.1.2.1 (dcs_get dec_X2_init_0 16 rfl) (by decide) (fun hc => absurd hc (by decide)) (fun _ => ?_)
  refine lv_aload_n G.1.1 G.1.2.1 (dcs_get dec_X2_init_0 17 rfl) rfl (lv_at hl 1 rfl) ?_
  obtain ⟨z393, e_z393, ok_z393, hf⟩ := cR_some hf
  have k_z393 := okr_in ok_z393
  refine r_getr (k := 0) cls2 fi_2_0.1 fi_2_0.2 q_291 (G.gx w) w.1 k_a0.1 k_a0.2 e_z393 (dcs_get dec_X2_init_0 18 rfl) ?_
  refine lv_iload_n G.1.1 G.1.2.1 (dcs_get dec_X2_init_0 19 rfl) rfl (lv_at hl 0 rfl) ?_
  obtain ⟨h394, hf⟩ := cG_some hf
  obtain ⟨σ395, e_σ395, hf⟩ := cL_some hf
  obtain ⟨n396, e_n396, hf⟩ := cL_some hf
  refine r_new cls10 ctf10 okt10 q_288 q_228 q_8 G w h394 ⟨Nat.le_of_ble_eq_true rfl, Nat.le_of_ble_eq_true rfl⟩ (dcs_get dec_X2_init_0 20 rfl) (fun H ad1 e397 w => ?_)
  rw [← e397 a0 k_a0.1] at hl
  rw [← e397 z393 k_z393.1]
  have k_a0 := And.intro (Nat.lt_of_lt_of_le k_a0.1 (by omega : n389 ≤ n396)) k_a0.2
  have k_z393 := And.intro (Nat.lt_of_lt_of_le k_z393.1 (by omega : n389 ≤ n396)) k_z393.2
  have k_n389 : n389 < n396 ∧ (kC n389).1 = 10 := ⟨by omega, by rw [eq_of_beq h394]⟩
  have w := Wa_nm e_n396 e_σ395 w
  generalize ad1 = ad at hl w ⊢
  clear e397
  refine lv_dup G.1.1 G.1.2.1 (dcs_get dec_X2_init_0 21 rfl) rfl ?_
  obtain ⟨n400, σ399, h398, hf⟩ := cC_some hf
  refine a_A (k_IN (As := []) (rest := [.ref (ad n389), .int (35 : Int32), .ref (ad z393)]) lb_X10_init rfl q_230 nm_290 (C_X10_init w.2.1 (w.2.2.2.2 rfl) n389 h398 k_n389) ⟨Nat.le_of_ble_eq_true rfl, Nat.le_of_ble_eq_true rfl⟩ G w rfl rfl hl.1 (Nat.le_of_ble_eq_true rfl) (dcs_get dec_X2_init_0 22 rfl) ⟨Nat.le_of_ble_eq_true rfl, Nat.le_of_ble_eq_true rfl⟩) G w (fun H locs ad1 e401 w => ?_)
  rw [← e401.2 a0 k_a0.1] at hl
  rw [← e401.2 n389 k_n389.1]
  rw [← e401.2 z393 k_z393.1]
  have k_a0 := And.intro (Nat.lt_of_lt_of_le k_a0.1 e401.1) k_a0.2
  have k_z393 := And.intro (Nat.lt_of_lt_of_le k_z393.1 e401.1) k_z393.2
  have k_n389 := And.intro (Nat.lt_of_lt_of_le k_n389.1 e401.1) k_n389.2
  generalize ad1 = ad at hl w ⊢
  clear e401
  obtain ⟨h402, hf⟩ := cG_some hf
  obtain ⟨σ403, e_σ403, hf⟩ := cL_some hf
  refine r_aast cls10 rfl (G.gx w) w.1 k_z393.1 k_z393.2 k_n389.1 k_n389.2 h402 (dcs_get dec_X2_init_0 23 rfl) (fun H locs w1 => ?_)
  have w := Wa_uP e_σ403 k_n389.1 w w1
  refine lv_iinc (v := (36 : Int32)) (lv' := [(1, .int (36 : Int32)), (0, .ref (ad a0))]) G.1.1 G.1.2.1 (dcs_get dec_X2_init_0 24 rfl) hl (k := 0) rfl (by decide) (by decide) rfl (fun ls hl => ?_)
  refine lv_goto (tgt := 25) G.1.1 G.1.2.1 (dcs_get dec_X2_init_0 25 rfl) (by decide) ?_
  refine lv_iload_n G.1.1 G.1.2.1 (dcs_get dec_X2_init_0 14 rfl) rfl (lv_at hl 0 rfl) ?_
  refine lv_bipush (v := (40 : Int32)) G.1.1 G.1.2.1 (dcs_get dec_X2_init_0 15 rfl) (by decide) ?_
  refine lv_icmp_ge (tgt := 50) G.1.1 G.1.2.1 (dcs_get dec_X2_init_0 16 rfl) (by decide) (fun hc => absurd hc (by decide)) (fun _ => ?_)
  refine lv_aload_n G.1.1 G.1.2.1 (dcs_get dec_X2_init_0 17 rfl) rfl (lv_at hl 1 rfl) ?_
  obtain ⟨z404, e_z404, ok_z404, hf⟩ := cR_some hf
  have k_z404 := okr_in ok_z404
  refine r_getr (k := 0) cls2 fi_2_0.1 fi_2_0.2 q_291 (G.gx w) w.1 k_a0.1 k_a0.2 e_z404 (dcs_get dec_X2_init_0 18 rfl) ?_
  refine lv_iload_n G.1.1 G.1.2.1 (dcs_get dec_X2_init_0 19 rfl) rfl (lv_at hl 0 rfl) ?_
  obtain ⟨h405, hf⟩ := cG_some hf
  obtain ⟨σ406, e_σ406, hf⟩ := cL_some hf
  obtain ⟨n407, e_n407, hf⟩ := cL_some hf
  refine r_new cls10 ctf10 okt10 q_288 q_228 q_8 G w h405 ⟨Nat.le_of_ble_eq_true rfl, Nat.le_of_ble_eq_true rfl⟩ (dcs_get dec_X2_init_0 20 rfl) (fun H ad1 e408 w => ?_)
  rw [← e408 a0 k_a0.1] at hl
  rw [← e408 z404 k_z404.1]
  have k_a0 := And.intro (Nat.lt_of_lt_of_le k_a0.1 (by omega : n400 ≤ n407)) k_a0.2
  have k_z404 := And.intro (Nat.lt_of_lt_of_le k_z404.1 (by omega : n400 ≤ n407)) k_z404.2
  have k_n400 : n400 < n407 ∧ (kC n400).1 = 10 := ⟨by omega, by rw [eq_of_beq h405]⟩
  have w := Wa_nm e_n407 e_σ406 w
  generalize ad1 = ad at hl w ⊢
  clear e408
  refine lv_dup G.1.1 G.1.2.1 (dcs_get dec_X2_init_0 21 rfl) rfl ?_
  obtain ⟨n411, σ410, h409, hf⟩ := cC_some hf
  refine a_A (k_IN (As := []) (rest := [.ref (ad n400), .int (36 : Int32), .ref (ad z404)]) lb_X10_init rfl q_230 nm_290 (C_X10_init w.2.1 (w.2.2.2.2 rfl) n400 h409 k_n400) ⟨Nat.le_of_ble_eq_true rfl, Nat.le_of_ble_eq_true rfl⟩ G w rfl rfl hl.1 (Nat.le_of_ble_eq_true rfl) (dcs_get dec_X2_init_0 22 rfl) ⟨Nat.le_of_ble_eq_true rfl, Nat.le_of_ble_eq_true rfl⟩) G w (fun H locs ad1 e412 w => ?_)
  rw [← e412.2 a0 k_a0.1] at hl
  rw [← e412.2 n400 k_n400.1]
  rw [← e412.2 z404 k_z404.1]
  have k_a0 := And.intro (Nat.lt_of_lt_of_le k_a0.1 e412.1) k_a0.2
  have k_z404 := And.intro (Nat.lt_of_lt_of_le k_z404.1 e412.1) k_z404.2
  have k_n400 := And.intro (Nat.lt_of_lt_of_le k_n400.1 e412.1) k_n400.2
  generalize ad1 = ad at hl w ⊢
  clear e412
  obtain ⟨h413, hf⟩ := cG_some hf
  obtain ⟨σ414, e_σ414, hf⟩ := cL_some hf
  refine r_aast cls10 rfl (G.gx w) w.1 k_z404.1 k_z404.2 k_n400.1 k_n400.2 h413 (dcs_get dec_X2_init_0 23 rfl) (fun H locs w1 => ?_)
  have w := Wa_uP e_σ414 k_n400.1 w w1
  refine lv_iinc (v := (37 : Int32)) (lv' := [(1, .int (37 : Int32)), (0, .ref (ad a0))]) G.1.1 G.1.2.1 (dcs_get dec_X2_init_0 24 rfl) hl (k := 0) rfl (by decide) (by decide) rfl (fun ls hl => ?_)
  refine lv_goto (tgt := 25) G.1.1 G.1.2.1 (dcs_get dec_X2_init_0 25 rfl) (by decide) ?_
  refine lv_iload_n G.1.1 G.1.2.1 (dcs_get dec_X2_init_0 14 rfl) rfl (lv_at hl 0 rfl) ?_
  refine lv_bipush (v := (40 : Int32)) G.1.1 G.1.2.1 (dcs_get dec_X2_init_0 15 rfl) (by decide) ?_
  refine lv_icmp_ge (tgt := 50) G.1.1 G.1.2.1 (dcs_get dec_X2_init_0 16 rfl) (by decide) (fun hc => absurd hc (by decide)) (fun _ => ?_)
  refine lv_aload_n G.1.1 G.1.2.1 (dcs_get dec_X2_init_0 17 rfl) rfl (lv_at hl 1 rfl) ?_
  obtain ⟨z415, e_z415, ok_z415, hf⟩ := cR_some hf
  have k_z415 := okr_in ok_z415
  refine r_getr (k := 0) cls2 fi_2_0.1 fi_2_0.2 q_291 (G.gx w) w.1 k_a0.1 k_a0.2 e_z415 (dcs_get dec_X2_init_0 18 rfl) ?_
  refine lv_iload_n G.1.1 G.1.2.1 (dcs_get dec_X2_init_0 19 rfl) rfl (lv_at hl 0 rfl) ?_
  obtain ⟨h416, hf⟩ := cG_some hf
  obtain ⟨σ417, e_σ417, hf⟩ := cL_some hf
  obtain ⟨n418, e_n418, hf⟩ := cL_some hf
  refine r_new cls10 ctf10 okt10 q_288 q_228 q_8 G w h416 ⟨Nat.le_of_ble_eq_true rfl, Nat.le_of_ble_eq_true rfl⟩ (dcs_get dec_X2_init_0 20 rfl) (fun H ad1 e419 w => ?_)
  rw [← e419 a0 k_a0.1] at hl
  rw [← e419 z415 k_z415.1]
  have k_a0 := And.intro (Nat.lt_of_lt_of_le k_a0.1 (by omega : n411 ≤ n418)) k_a0.2
  have k_z415 := And.intro (Nat.lt_of_lt_of_le k_z415.1 (by omega : n411 ≤ n418)) k_z415.2
  have k_n411 : n411 < n418 ∧ (kC n411).1 = 10 := ⟨by omega, by rw [eq_of_beq h416]⟩
  have w := Wa_nm e_n418 e_σ417 w
  generalize ad1 = ad at hl w ⊢
  clear e419
  refine lv_dup G.1.1 G.1.2.1 (dcs_get dec_X2_init_0 21 rfl) rfl ?_
  obtain ⟨n422, σ421, h420, hf⟩ := cC_some hf
  refine a_A (k_IN (As := []) (rest := [.ref (ad n411), .int (37 : Int32), .ref (ad z415)]) lb_X10_init rfl q_230 nm_290 (C_X10_init w.2.1 (w.2.2.2.2 rfl) n411 h420 k_n411) ⟨Nat.le_of_ble_eq_true rfl, Nat.le_of_ble_eq_true rfl⟩ G w rfl rfl hl.1 (Nat.le_of_ble_eq_true rfl) (dcs_get dec_X2_init_0 22 rfl) ⟨Nat.le_of_ble_eq_true rfl, Nat.le_of_ble_eq_true rfl⟩) G w (fun H locs ad1 e423 w => ?_)
  rw [← e423.2 a0 k_a0.1] at hl
  rw [← e423.2 z415 k_z415.1]
  rw [← e423.2 n411 k_n411.1]
  have k_a0 := And.intro (Nat.lt_of_lt_of_le k_a0.1 e423.1) k_a0.2
  have k_z415 := And.intro (Nat.lt_of_lt_of_le k_z415.1 e423.1) k_z415.2
  have k_n411 := And.intro (Nat.lt_of_lt_of_le k_n411.1 e423.1) k_n411.2
  generalize ad1 = ad at hl w ⊢
  clear e423
  obtain ⟨h424, hf⟩ := cG_some hf
  obtain ⟨σ425, e_σ425, hf⟩ := cL_some hf
  refine r_aast cls10 rfl (G.gx w) w.1 k_z415.1 k_z415.2 k_n411.1 k_n411.2 h424 (dcs_get dec_X2_init_0 23 rfl) (fun H locs w1 => ?_)
  have w := Wa_uP e_σ425 k_n411.1 w w1
  refine lv_iinc (v := (38 : Int32)) (lv' := [(1, .int (38 : Int32)), (0, .ref (ad a0))]) G.1.1 G.1.2.1 (dcs_get dec_X2_init_0 24 rfl) hl (k := 0) rfl (by decide) (by decide) rfl (fun ls hl => ?_)
  refine lv_goto (tgt := 25) G.1.1 G.1.2.1 (dcs_get dec_X2_init_0 25 rfl) (by decide) ?_
  refine lv_iload_n G.1.1 G.1.2.1 (dcs_get dec_X2_init_0 14 rfl) rfl (lv_at hl 0 rfl) ?_
  refine lv_bipush (v := (40 : Int32)) G.1.1 G.1.2.1 (dcs_get dec_X2_init_0 15 rfl) (by decide) ?_
  refine lv_icmp_ge (tgt := 50) G.1.1 G.1.2.1 (dcs_get dec_X2_init_0 16 rfl) (by decide) (fun hc => absurd hc (by decide)) (fun _ => ?_)
  refine lv_aload_n G.1.1 G.1.2.1 (dcs_get dec_X2_init_0 17 rfl) rfl (lv_at hl 1 rfl) ?_
  obtain ⟨z426, e_z426, ok_z426, hf⟩ := cR_some hf
  have k_z426 := okr_in ok_z426
  refine r_getr (k := 0) cls2 fi_2_0.1 fi_2_0.2 q_291 (G.gx w) w.1 k_a0.1 k_a0.2 e_z426 (dcs_get dec_X2_init_0 18 rfl) ?_
  refine lv_iload_n G.1.1 G.1.2.1 (dcs_get dec_X2_init_0 19 rfl) rfl (lv_at hl 0 rfl) ?_
  obtain ⟨h427, hf⟩ := cG_some hf
  obtain ⟨σ428, e_σ428, hf⟩ := cL_some hf
  obtain ⟨n429, e_n429, hf⟩ := cL_some hf
  refine r_new cls10 ctf10 okt10 q_288 q_228 q_8 G w h427 ⟨Nat.le_of_ble_eq_true rfl, Nat.le_of_ble_eq_true rfl⟩ (dcs_get dec_X2_init_0 20 rfl) (fun H ad1 e430 w => ?_)
  rw [← e430 a0 k_a0.1] at hl
  rw [← e430 z426 k_z426.1]
  have k_a0 := And.intro (Nat.lt_of_lt_of_le k_a0.1 (by omega : n422 ≤ n429)) k_a0.2
  have k_z426 := And.intro (Nat.lt_of_lt_of_le k_z426.1 (by omega : n422 ≤ n429)) k_z426.2
  have k_n422 : n422 < n429 ∧ (kC n422).1 = 10 := ⟨by omega, by rw [eq_of_beq h427]⟩
  have w := Wa_nm e_n429 e_σ428 w
  generalize ad1 = ad at hl w ⊢
  clear e430
  refine lv_dup G.1.1 G.1.2.1 (dcs_get dec_X2_init_0 21 rfl) rfl ?_
  obtain ⟨n433, σ432, h431, hf⟩ := cC_some hf
  refine a_A (k_IN (As := []) (rest := [.ref (ad n422), .int (38 : Int32), .ref (ad z426)]) lb_X10_init rfl q_230 nm_290 (C_X10_init w.2.1 (w.2.2.2.2 rfl) n422 h431 k_n422) ⟨Nat.le_of_ble_eq_true rfl, Nat.le_of_ble_eq_true rfl⟩ G w rfl rfl hl.1 (Nat.le_of_ble_eq_true rfl) (dcs_get dec_X2_init_0 22 rfl) ⟨Nat.le_of_ble_eq_true rfl, Nat.le_of_ble_eq_true rfl⟩) G w (fun H locs ad1 e434 w => ?_)
  rw [← e434.2 a0 k_a0.1] at hl
  rw [← e434.2 n422 k_n422.1]
  rw [← e434.2 z426 k_z426.1]
  have k_a0 := And.intro (Nat.lt_of_lt_of_le k_a0.1 e434.1) k_a0.2
  have k_z426 := And.intro (Nat.lt_of_lt_of_le k_z426.1 e434.1) k_z426.2
  have k_n422 := And.intro (Nat.lt_of_lt_of_le k_n422.1 e434.1) k_n422.2
  generalize ad1 = ad at hl w ⊢
  clear e434
  obtain ⟨h435, hf⟩ := cG_some hf
  obtain ⟨σ436, e_σ436, hf⟩ := cL_some hf
  refine r_aast cls10 rfl (G.gx w) w.1 k_z426.1 k_z426.2 k_n422.1 k_n422.2 h435 (dcs_get dec_X2_init_0 23 rfl) (fun H locs w1 => ?_)
  have w := Wa_uP e_σ436 k_n422.1 w w1
  refine lv_iinc (v := (39 : Int32)) (lv' := [(1, .int (39 : Int32)), (0, .ref (ad a0))]) G.1.1 G.1.2.1 (dcs_get dec_X2_init_0 24 rfl) hl (k := 0) rfl (by decide) (by decide) rfl (fun ls hl => ?_)
  refine lv_goto (tgt := 25) G.1.1 G.1.2.1 (dcs_get dec_X2_init_0 25 rfl) (by decide) ?_
  refine lv_iload_n G.1.1 G.1.2.1 (dcs_get dec_X2_init_0 14 rfl) rfl (lv_at hl 0 rfl) ?_
  refine lv_bipush (v := (40 : Int32)) G.1.1 G.1.2.1 (dcs_get dec_X2_init_0 15 rfl) (by decide) ?_
  refine lv_icmp_ge (tgt := 50) G.1.1 G.1.2.1 (dcs_get dec_X2_init_0 16 rfl) (by decide) (fun hc => absurd hc (by decide)) (fun _ => ?_)
  refine lv_aload_n G.1.1 G.1.2.1 (dcs_get dec_X2_init_0 17 rfl) rfl (lv_at hl 1 rfl) ?_
  obtain ⟨z437, e_z437, ok_z437, hf⟩ := cR_some hf
  have k_z437 := okr_in ok_z437
  refine r_getr (k := 0) cls2 fi_2_0.1 fi_2_0.2 q_291 (G.gx w) w.1 k_a0.1 k_a0.2 e_z437 (dcs_get dec_X2_init_0 18 rfl) ?_
  refine lv_iload_n G.1.1 G.1.2.1 (dcs_get dec_X2_init_0 19 rfl) rfl (lv_at hl 0 rfl) ?_
  obtain ⟨h438, hf⟩ := cG_some hf
  obtain ⟨σ439, e_σ439, hf⟩ := cL_some hf
  obtain ⟨n440, e_n440, hf⟩ := cL_some hf
  refine r_new cls10 ctf10 okt10 q_288 q_228 q_8 G w h438 ⟨Nat.le_of_ble_eq_true rfl, Nat.le_of_ble_eq_true rfl⟩ (dcs_get dec_X2_init_0 20 rfl) (fun H ad1 e441 w => ?_)
  rw [← e441 a0 k_a0.1] at hl
  rw [← e441 z437 k_z437.1]
  have k_a0 := And.intro (Nat.lt_of_lt_of_le k_a0.1 (by omega : n433 ≤ n440)) k_a0.2
  have k_z437 := And.intro (Nat.lt_of_lt_of_le k_z437.1 (by omega : n433 ≤ n440)) k_z437.2
  have k_n433 : n433 < n440 ∧ (kC n433).1 = 10 := ⟨by omega, by rw [eq_of_beq h438]⟩
  have w := Wa_nm e_n440 e_σ439 w
  generalize ad1 = ad at hl w ⊢
  clear e441
  refine lv_dup G.1.1 G.1.2.1 (dcs_get dec_X2_init_0 21 rfl) rfl ?_
  obtain ⟨n444, σ443, h442, hf⟩ := cC_some hf
  refine a_A (k_IN (As := []) (rest := [.ref (ad n433), .int (39 : Int32), .ref (ad z437)]) lb_X10_init rfl q_230 nm_290 (C_X10_init w.2.1 (w.2.2.2.2 rfl) n433 h442 k_n433) ⟨Nat.le_of_ble_eq_true rfl, Nat.le_of_ble_eq_true rfl⟩ G w rfl rfl hl.1 (Nat.le_of_ble_eq_true rfl) (dcs_get dec_X2_init_0 22 rfl) ⟨Nat.le_of_ble_eq_true rfl, Nat.le_of_ble_eq_true rfl⟩) G w (fun H locs ad1 e445 w => ?_)
  rw [← e445.2 a0 k_a0.1] at hl
  rw [← e445.2 n433 k_n433.1]
  rw [← e445.2 z437 k_z437.1]
  have k_a0 := And.intro (Nat.lt_of_lt_of_le k_a0.1 e445.1) k_a0.2
  have k_z437 := And.intro (Nat.lt_of_lt_of_le k_z437.1 e445.1) k_z437.2
  have k_n433 := And.intro (Nat.lt_of_lt_of_le k_n433.1 e445.1) k_n433.2
  generalize ad1 = ad at hl w ⊢
  clear e445
  obtain ⟨h446, hf⟩ := cG_some hf
  obtain ⟨σ447, e_σ447, hf⟩ := cL_some hf
  refine r_aast cls10 rfl (G.gx w) w.1 k_z437.1 k_z437.2 k_n433.1 k_n433.2 h446 (dcs_get dec_X2_init_0 23 rfl) (fun H locs w1 => ?_)
  have w := Wa_uP e_σ447 k_n433.1 w w1
  refine lv_iinc (v := (40 : Int32)) (lv' := [(1, .int (40 : Int32)), (0, .ref (ad a0))]) G.1.1 G.1.2.1 (dcs_get dec_X2_init_0 24 rfl) hl (k := 0) rfl (by decide) (by decide) rfl (fun ls hl => ?_)
  refine lv_goto (tgt := 25) G.1.1 G.1.2.1 (dcs_get dec_X2_init_0 25 rfl) (by decide) ?_
  refine lv_iload_n G.1.1 G.1.2.1 (dcs_get dec_X2_init_0 14 rfl) rfl (lv_at hl 0 rfl) ?_
  refine lv_bipush (v := (40 : Int32)) G.1.1 G.1.2.1 (dcs_get dec_X2_init_0 15 rfl) (by decide) ?_
  refine lv_icmp_ge (tgt := 50) G.1.1 G.1.2.1 (dcs_get dec_X2_init_0 16 rfl) (by decide) (fun _ => ?_) (fun hc => absurd (by decide) hc)
  have e9 := Option.some.inj hf
  refine W.widen (k := 161) (n := 4840) (Nat.le_of_ble_eq_true rfl) (Nat.le_of_ble_eq_true rfl) ?_
  exact r_vretA hsz G w hm (fun h => rfl) (congrArg Prod.fst e9) (congrArg Prod.snd e9) (dcs_get dec_X2_init_0 26 rfl)
end
set_option maxRecDepth 100000 in
set_option maxHeartbeats 16000000 in
theorem C_X2_init {l : Launch} {D : va_G} {ay : Nat → ClassId} {ad : Nat → Nat} {n n' sz : Nat} {σ σ' : hSt} (hi : hInj n ad) (hR : RO n σ) (a0 : Nat) (hf : F_X2_init a0 n σ = some (n', σ')) (k_a0 : a0 < n ∧ (kC a0).1 = 2) : hMA l D ay kC n ad sz yX2_init cX2_init 2 (rmA 2 40 161 4840) [.ref (ad a0)] σ true n' σ' 161 4840 := by
  refine hMA_in (by decide) rfl hi hR (Nat.le_of_ble_eq_true rfl) ?_
  intro p e s m below meth c hsz G hm w ls hl
  exact B_X2_init a0 n σ hsz G hm hf k_a0 w hl

/-! HillDrums.Told.<init> -/
def DL_X9_init_0 : List (Nat × Instr × Nat) := [(0, .aload_n 0, 1), (1, .invokespecial 3, 3), (4, .aload_n 0, 1), (5, .bipush 20, 2), (7, .newarray .int, 2), (9, .putfield 9, 3), (12, .aload_n 0, 1), (13, .bipush 20, 2), (15, .newarray .int, 2), (17, .putfield 15, 3), (20, .aload_n 0, 1), (21, .bipush 20, 2), (23, .newarray .int, 2), (25, .putfield 18, 3), (28, .aload_n 0, 1), (29, .iconst 0, 1), (30, .putfield 21, 3), (33, .return_, 1)]
set_option maxRecDepth 100000 in
theorem dec_X9_init_0 : dcs cX9_init DL_X9_init_0 = true := by decide +kernel
theorem lb_X9_init : lkB yX9_init cX9_init 1 (none) 0 := ⟨q_306, q_10, ⟨by decide, by decide⟩, by decide +kernel⟩
set_option maxRecDepth 100000 in
def F_X9_init (a0 : Nat) (n : Nat) (σ : hSt) : Option (Nat × hSt) :=
cG (kC n == (101, 20)) <|
cL (zO σ n) fun σ2 =>
cL (n + 1) fun n3 =>
cL (uP σ2 a0 0 (some n)) fun σ5 =>
cG (kC n3 == (101, 20)) <|
cL (zO σ5 n3) fun σ7 =>
cL (n3 + 1) fun n8 =>
cL (uP σ7 a0 1 (some n3)) fun σ10 =>
cG (kC n8 == (101, 20)) <|
cL (zO σ10 n8) fun σ12 =>
cL (n8 + 1) fun n13 =>
cL (uP σ12 a0 2 (some n8)) fun σ15 =>
cL (uI σ15 a0 3 (0 : Int32)) fun σ16 =>
some (n13, σ16)
section
variable {p : Program} {l : Launch} {e : Env} {s : State} {m : MethodId} {args : Array Value} {below : List Frame} {meth : Method} {c : Code} {D : va_G} {ay : Nat → ClassId} {ad : Nat → Nat}
set_option maxRecDepth 100000 in
set_option maxHeartbeats 16000000 in
theorem B_X9_init {n0 : Nat} {ad0 : Nat → Nat} {sz n' : Nat} {σ' : hSt} {H : Heap} {locs : List Loc} {ls : Array Slot} (a0 : Nat) (n : Nat) (σ : hSt) (hsz : s.heap.size = sz) (G : Gy p m c cX9_init 1 s args RX9 D ay (aZ n0 ad0 sz)) (hm : meth.sig.returnType = none ∧ meth.locks = false ∧ meth.name = "<init>") (hf : F_X9_init a0 n σ = some (n', σ')) (k_a0 : a0 < n ∧ (kC a0).1 = 9) (w : Wa D ay kC n0 ad0 true n ad (aZ n0 ad0 sz) s σ H locs) (hl : lv_has ls 1 [(0, .ref (ad a0))]) : W p l e (rmA 1 20 3 60) s m args below meth c H locs 0 0 (MQ below (cA D ay kC n0 ad0 sz true n' σ') args s 3 60 (aZ n0 ad0 sz)) (F0 m 0 ls []) := by
  unfold F_X9_init at hf
  refine lv_aload_n G.1.1 G.1.2.1 (dcs_get dec_X9_init_0 0 rfl) rfl (lv_at hl 0 rfl) ?_
  refine r_objI q_307 q_29 q_30 ⟨Nat.le_of_ble_eq_true rfl, Nat.le_of_ble_eq_true rfl⟩ G hl.1 (dcs_get dec_X9_init_0 1 rfl) ?_
  refine lv_aload_n G.1.1 G.1.2.1 (dcs_get dec_X9_init_0 2 rfl) rfl (lv_at hl 0 rfl) ?_
  refine lv_bipush (v := (20 : Int32)) G.1.1 G.1.2.1 (dcs_get dec_X9_init_0 3 rfl) (by decide) ?_
  obtain ⟨h1, hf⟩ := cG_some hf
  obtain ⟨σ2, e_σ2, hf⟩ := cL_some hf
  obtain ⟨n3, e_n3, hf⟩ := cL_some hf
  refine r_newI (N := 20) (t0 := 1) (ty := .int) ⟨by decide, by decide⟩ (by simp) rfl q_73 (Nat.le_of_ble_eq_true rfl) G w h1 ⟨Nat.le_of_ble_eq_true rfl, Nat.le_of_ble_eq_true rfl⟩ (dcs_get dec_X9_init_0 4 rfl) (fun H ad1 e4 w => ?_)
  rw [← e4 a0 k_a0.1] at hl
  rw [← e4 a0 k_a0.1]
  have k_a0 := And.intro (Nat.lt_of_lt_of_le k_a0.1 (by omega : n ≤ n3)) k_a0.2
  have k_n : n < n3 ∧ (kC n).1 = 101 := ⟨by omega, by rw [eq_of_beq h1]⟩
  have w := Wa_nm e_n3 e_σ2 w
  generalize ad1 = ad at hl w ⊢
  clear e4
  obtain ⟨σ5, e_σ5, hf⟩ := cL_some hf
  refine r_putrF (k := 0) cls9 ctf9 fi_9_0.1 fi_9_0.2 rfl rfl (ctf9.1 0 fi_9_0.1) q_308 (fun _ => rfl) (fun _ => rfl) hm.2.2 (G.gx w) w.1 k_a0.1 k_a0.2 (dcs_get dec_X9_init_0 5 rfl) (fun H locs w1 => ?_)
  have w := Wa_uP e_σ5 k_n.1 w w1
  refine lv_aload_n G.1.1 G.1.2.1 (dcs_get dec_X9_init_0 6 rfl) rfl (lv_at hl 0 rfl) ?_
  refine lv_bipush (v := (20 : Int32)) G.1.1 G.1.2.1 (dcs_get dec_X9_init_0 7 rfl) (by decide) ?_
  obtain ⟨h6, hf⟩ := cG_some hf
  obtain ⟨σ7, e_σ7, hf⟩ := cL_some hf
  obtain ⟨n8, e_n8, hf⟩ := cL_some hf
  refine r_newI (N := 20) (t0 := 1) (ty := .int) ⟨by decide, by decide⟩ (by simp) rfl q_73 (Nat.le_of_ble_eq_true rfl) G w h6 ⟨Nat.le_of_ble_eq_true rfl, Nat.le_of_ble_eq_true rfl⟩ (dcs_get dec_X9_init_0 8 rfl) (fun H ad1 e9 w => ?_)
  rw [← e9 a0 k_a0.1] at hl
  rw [← e9 a0 k_a0.1]
  have k_a0 := And.intro (Nat.lt_of_lt_of_le k_a0.1 (by omega : n3 ≤ n8)) k_a0.2
  have k_n3 : n3 < n8 ∧ (kC n3).1 = 101 := ⟨by omega, by rw [eq_of_beq h6]⟩
  have w := Wa_nm e_n8 e_σ7 w
  generalize ad1 = ad at hl w ⊢
  clear e9
  obtain ⟨σ10, e_σ10, hf⟩ := cL_some hf
  refine r_putrF (k := 1) cls9 ctf9 fi_9_1.1 fi_9_1.2 rfl rfl (ctf9.1 1 fi_9_1.1) q_309 (fun _ => rfl) (fun _ => rfl) hm.2.2 (G.gx w) w.1 k_a0.1 k_a0.2 (dcs_get dec_X9_init_0 9 rfl) (fun H locs w1 => ?_)
  have w := Wa_uP e_σ10 k_n3.1 w w1
  refine lv_aload_n G.1.1 G.1.2.1 (dcs_get dec_X9_init_0 10 rfl) rfl (lv_at hl 0 rfl) ?_
  refine lv_bipush (v := (20 : Int32)) G.1.1 G.1.2.1 (dcs_get dec_X9_init_0 11 rfl) (by decide) ?_
  obtain ⟨h11, hf⟩ := cG_some hf
  obtain ⟨σ12, e_σ12, hf⟩ := cL_some hf
  obtain ⟨n13, e_n13, hf⟩ := cL_some hf
  refine r_newI (N := 20) (t0 := 1) (ty := .int) ⟨by decide, by decide⟩ (by simp) rfl q_73 (Nat.le_of_ble_eq_true rfl) G w h11 ⟨Nat.le_of_ble_eq_true rfl, Nat.le_of_ble_eq_true rfl⟩ (dcs_get dec_X9_init_0 12 rfl) (fun H ad1 e14 w => ?_)
  rw [← e14 a0 k_a0.1] at hl
  rw [← e14 a0 k_a0.1]
  have k_a0 := And.intro (Nat.lt_of_lt_of_le k_a0.1 (by omega : n8 ≤ n13)) k_a0.2
  have k_n8 : n8 < n13 ∧ (kC n8).1 = 101 := ⟨by omega, by rw [eq_of_beq h11]⟩
  have w := Wa_nm e_n13 e_σ12 w
  generalize ad1 = ad at hl w ⊢
  clear e14
  obtain ⟨σ15, e_σ15, hf⟩ := cL_some hf
  refine r_putrF (k := 2) cls9 ctf9 fi_9_2.1 fi_9_2.2 rfl rfl (ctf9.1 2 fi_9_2.1) q_310 (fun _ => rfl) (fun _ => rfl) hm.2.2 (G.gx w) w.1 k_a0.1 k_a0.2 (dcs_get dec_X9_init_0 13 rfl) (fun H locs w1 => ?_)
  have w := Wa_uP e_σ15 k_n8.1 w w1
  refine lv_aload_n G.1.1 G.1.2.1 (dcs_get dec_X9_init_0 14 rfl) rfl (lv_at hl 0 rfl) ?_
  refine lv_iconst (v := (0 : Int32)) G.1.1 G.1.2.1 (dcs_get dec_X9_init_0 15 rfl) (by decide) ?_
  obtain ⟨σ16, e_σ16, hf⟩ := cL_some hf
  refine r_puti (k := 3) cls9 ct9 fi_9_3.1 fi_9_3.2 fp_9_3.1 fp_9_3.2 q_311 rfl rfl (G.gx w) w.1 k_a0.1 k_a0.2 (dcs_get dec_X9_init_0 16 rfl) (fun H locs w1 => ?_)
  have w := Wa_uI e_σ16 w w1
  have e9 := Option.some.inj hf
  refine W.widen (k := 3) (n := 60) (Nat.le_of_ble_eq_true rfl) (Nat.le_of_ble_eq_true rfl) ?_
  exact r_vretA hsz G w hm (fun h => rfl) (congrArg Prod.fst e9) (congrArg Prod.snd e9) (dcs_get dec_X9_init_0 17 rfl)
end
set_option maxRecDepth 100000 in
set_option maxHeartbeats 16000000 in
theorem C_X9_init {l : Launch} {D : va_G} {ay : Nat → ClassId} {ad : Nat → Nat} {n n' sz : Nat} {σ σ' : hSt} (hi : hInj n ad) (hR : RO n σ) (a0 : Nat) (hf : F_X9_init a0 n σ = some (n', σ')) (k_a0 : a0 < n ∧ (kC a0).1 = 9) : hMA l D ay kC n ad sz yX9_init cX9_init 1 (rmA 1 20 3 60) [.ref (ad a0)] σ true n' σ' 3 60 := by
  refine hMA_in (by decide) rfl hi hR (Nat.le_of_ble_eq_true rfl) ?_
  intro p e s m below meth c hsz G hm w ls hl
  exact B_X9_init a0 n σ hsz G hm hf k_a0 w hl

/-! HillDrums.Plans.<init> -/
def DL_X3_init_0 : List (Nat × Instr × Nat) := [(0, .aload_n 0, 1), (1, .invokespecial 3, 3), (4, .aload_n 0, 1), (5, .bipush 64, 2), (7, .newarray .int, 2), (9, .putfield 9, 3), (12, .aload_n 0, 1), (13, .bipush 64, 2), (15, .newarray .boolean, 2), (17, .putfield 15, 3), (20, .aload_n 0, 1), (21, .bipush 64, 2), (23, .newarray .int, 2), (25, .putfield 19, 3), (28, .aload_n 0, 1), (29, .bipush 64, 2), (31, .newarray .int, 2), (33, .putfield 22, 3), (36, .return_, 1)]
set_option maxRecDepth 100000 in
theorem dec_X3_init_0 : dcs cX3_init DL_X3_init_0 = true := by decide +kernel
theorem lb_X3_init : lkB yX3_init cX3_init 1 (none) 0 := ⟨q_326, q_11, ⟨by decide, by decide⟩, by decide +kernel⟩
set_option maxRecDepth 100000 in
def F_X3_init (a0 : Nat) (n : Nat) (σ : hSt) : Option (Nat × hSt) :=
cG (kC n == (101, 64)) <|
cL (zO σ n) fun σ2 =>
cL (n + 1) fun n3 =>
cL (uP σ2 a0 0 (some n)) fun σ5 =>
cG (kC n3 == (102, 64)) <|
cL (zO σ5 n3) fun σ7 =>
cL (n3 + 1) fun n8 =>
cL (uP σ7 a0 1 (some n3)) fun σ10 =>
cG (kC n8 == (101, 64)) <|
cL (zO σ10 n8) fun σ12 =>
cL (n8 + 1) fun n13 =>
cL (uP σ12 a0 2 (some n8)) fun σ15 =>
cG (kC n13 == (101, 64)) <|
cL (zO σ15 n13) fun σ17 =>
cL (n13 + 1) fun n18 =>
cL (uP σ17 a0 3 (some n13)) fun σ20 =>
some (n18, σ20)
section
variable {p : Program} {l : Launch} {e : Env} {s : State} {m : MethodId} {args : Array Value} {below : List Frame} {meth : Method} {c : Code} {D : va_G} {ay : Nat → ClassId} {ad : Nat → Nat}
set_option maxRecDepth 100000 in
set_option maxHeartbeats 16000000 in
theorem B_X3_init {n0 : Nat} {ad0 : Nat → Nat} {sz n' : Nat} {σ' : hSt} {H : Heap} {locs : List Loc} {ls : Array Slot} (a0 : Nat) (n : Nat) (σ : hSt) (hsz : s.heap.size = sz) (G : Gy p m c cX3_init 1 s args RX3 D ay (aZ n0 ad0 sz)) (hm : meth.sig.returnType = none ∧ meth.locks = false ∧ meth.name = "<init>") (hf : F_X3_init a0 n σ = some (n', σ')) (k_a0 : a0 < n ∧ (kC a0).1 = 3) (w : Wa D ay kC n0 ad0 true n ad (aZ n0 ad0 sz) s σ H locs) (hl : lv_has ls 1 [(0, .ref (ad a0))]) : W p l e (rmA 1 20 4 256) s m args below meth c H locs 0 0 (MQ below (cA D ay kC n0 ad0 sz true n' σ') args s 4 256 (aZ n0 ad0 sz)) (F0 m 0 ls []) := by
  unfold F_X3_init at hf
  refine lv_aload_n G.1.1 G.1.2.1 (dcs_get dec_X3_init_0 0 rfl) rfl (lv_at hl 0 rfl) ?_
  refine r_objI q_327 q_29 q_30 ⟨Nat.le_of_ble_eq_true rfl, Nat.le_of_ble_eq_true rfl⟩ G hl.1 (dcs_get dec_X3_init_0 1 rfl) ?_
  refine lv_aload_n G.1.1 G.1.2.1 (dcs_get dec_X3_init_0 2 rfl) rfl (lv_at hl 0 rfl) ?_
  refine lv_bipush (v := (64 : Int32)) G.1.1 G.1.2.1 (dcs_get dec_X3_init_0 3 rfl) (by decide) ?_
  obtain ⟨h1, hf⟩ := cG_some hf
  obtain ⟨σ2, e_σ2, hf⟩ := cL_some hf
  obtain ⟨n3, e_n3, hf⟩ := cL_some hf
  refine r_newI (N := 64) (t0 := 1) (ty := .int) ⟨by decide, by decide⟩ (by simp) rfl q_73 (Nat.le_of_ble_eq_true rfl) G w h1 ⟨Nat.le_of_ble_eq_true rfl, Nat.le_of_ble_eq_true rfl⟩ (dcs_get dec_X3_init_0 4 rfl) (fun H ad1 e4 w => ?_)
  rw [← e4 a0 k_a0.1] at hl
  rw [← e4 a0 k_a0.1]
  have k_a0 := And.intro (Nat.lt_of_lt_of_le k_a0.1 (by omega : n ≤ n3)) k_a0.2
  have k_n : n < n3 ∧ (kC n).1 = 101 := ⟨by omega, by rw [eq_of_beq h1]⟩
  have w := Wa_nm e_n3 e_σ2 w
  generalize ad1 = ad at hl w ⊢
  clear e4
  obtain ⟨σ5, e_σ5, hf⟩ := cL_some hf
  refine r_putrF (k := 0) cls3 ctf3 fi_3_0.1 fi_3_0.2 rfl rfl (ctf3.1 0 fi_3_0.1) q_328 (fun _ => rfl) (fun _ => rfl) hm.2.2 (G.gx w) w.1 k_a0.1 k_a0.2 (dcs_get dec_X3_init_0 5 rfl) (fun H locs w1 => ?_)
  have w := Wa_uP e_σ5 k_n.1 w w1
  refine lv_aload_n G.1.1 G.1.2.1 (dcs_get dec_X3_init_0 6 rfl) rfl (lv_at hl 0 rfl) ?_
  refine lv_bipush (v := (64 : Int32)) G.1.1 G.1.2.1 (dcs_get dec_X3_init_0 7 rfl) (by decide) ?_
  obtain ⟨h6, hf⟩ := cG_some hf
  obtain ⟨σ7, e_σ7, hf⟩ := cL_some hf
  obtain ⟨n8, e_n8, hf⟩ := cL_some hf
  refine r_newI (N := 64) (t0 := 2) (ty := .boolean) ⟨by decide, by decide⟩ (by simp) rfl q_341 (Nat.le_of_ble_eq_true rfl) G w h6 ⟨Nat.le_of_ble_eq_true rfl, Nat.le_of_ble_eq_true rfl⟩ (dcs_get dec_X3_init_0 8 rfl) (fun H ad1 e9 w => ?_)
  rw [← e9 a0 k_a0.1] at hl
  rw [← e9 a0 k_a0.1]
  have k_a0 := And.intro (Nat.lt_of_lt_of_le k_a0.1 (by omega : n3 ≤ n8)) k_a0.2
  have k_n3 : n3 < n8 ∧ (kC n3).1 = 102 := ⟨by omega, by rw [eq_of_beq h6]⟩
  have w := Wa_nm e_n8 e_σ7 w
  generalize ad1 = ad at hl w ⊢
  clear e9
  obtain ⟨σ10, e_σ10, hf⟩ := cL_some hf
  refine r_putrF (k := 1) cls3 ctf3 fi_3_1.1 fi_3_1.2 rfl rfl (ctf3.1 1 fi_3_1.1) q_329 (fun _ => rfl) (fun _ => rfl) hm.2.2 (G.gx w) w.1 k_a0.1 k_a0.2 (dcs_get dec_X3_init_0 9 rfl) (fun H locs w1 => ?_)
  have w := Wa_uP e_σ10 k_n3.1 w w1
  refine lv_aload_n G.1.1 G.1.2.1 (dcs_get dec_X3_init_0 10 rfl) rfl (lv_at hl 0 rfl) ?_
  refine lv_bipush (v := (64 : Int32)) G.1.1 G.1.2.1 (dcs_get dec_X3_init_0 11 rfl) (by decide) ?_
  obtain ⟨h11, hf⟩ := cG_some hf
  obtain ⟨σ12, e_σ12, hf⟩ := cL_some hf
  obtain ⟨n13, e_n13, hf⟩ := cL_some hf
  refine r_newI (N := 64) (t0 := 1) (ty := .int) ⟨by decide, by decide⟩ (by simp) rfl q_73 (Nat.le_of_ble_eq_true rfl) G w h11 ⟨Nat.le_of_ble_eq_true rfl, Nat.le_of_ble_eq_true rfl⟩ (dcs_get dec_X3_init_0 12 rfl) (fun H ad1 e14 w => ?_)
  rw [← e14 a0 k_a0.1] at hl
  rw [← e14 a0 k_a0.1]
  have k_a0 := And.intro (Nat.lt_of_lt_of_le k_a0.1 (by omega : n8 ≤ n13)) k_a0.2
  have k_n8 : n8 < n13 ∧ (kC n8).1 = 101 := ⟨by omega, by rw [eq_of_beq h11]⟩
  have w := Wa_nm e_n13 e_σ12 w
  generalize ad1 = ad at hl w ⊢
  clear e14
  obtain ⟨σ15, e_σ15, hf⟩ := cL_some hf
  refine r_putr (k := 2) cls3 ct3 fi_3_2.1 fi_3_2.2 fp_3_2.1 fp_3_2.2 q_330 (fun _ => rfl) (fun _ => rfl) (G.gx w) w.1 k_a0.1 k_a0.2 (dcs_get dec_X3_init_0 13 rfl) (fun H locs w1 => ?_)
  have w := Wa_uP e_σ15 k_n8.1 w w1
  refine lv_aload_n G.1.1 G.1.2.1 (dcs_get dec_X3_init_0 14 rfl) rfl (lv_at hl 0 rfl) ?_
  refine lv_bipush (v := (64 : Int32)) G.1.1 G.1.2.1 (dcs_get dec_X3_init_0 15 rfl) (by decide) ?_
  obtain ⟨h16, hf⟩ := cG_some hf
  obtain ⟨σ17, e_σ17, hf⟩ := cL_some hf
  obtain ⟨n18, e_n18, hf⟩ := cL_some hf
  refine r_newI (N := 64) (t0 := 1) (ty := .int) ⟨by decide, by decide⟩ (by simp) rfl q_73 (Nat.le_of_ble_eq_true rfl) G w h16 ⟨Nat.le_of_ble_eq_true rfl, Nat.le_of_ble_eq_true rfl⟩ (dcs_get dec_X3_init_0 16 rfl) (fun H ad1 e19 w => ?_)
  rw [← e19 a0 k_a0.1] at hl
  rw [← e19 a0 k_a0.1]
  have k_a0 := And.intro (Nat.lt_of_lt_of_le k_a0.1 (by omega : n13 ≤ n18)) k_a0.2
  have k_n13 : n13 < n18 ∧ (kC n13).1 = 101 := ⟨by omega, by rw [eq_of_beq h16]⟩
  have w := Wa_nm e_n18 e_σ17 w
  generalize ad1 = ad at hl w ⊢
  clear e19
  obtain ⟨σ20, e_σ20, hf⟩ := cL_some hf
  refine r_putr (k := 3) cls3 ct3 fi_3_3.1 fi_3_3.2 fp_3_3.1 fp_3_3.2 q_331 (fun _ => rfl) (fun _ => rfl) (G.gx w) w.1 k_a0.1 k_a0.2 (dcs_get dec_X3_init_0 17 rfl) (fun H locs w1 => ?_)
  have w := Wa_uP e_σ20 k_n13.1 w w1
  have e9 := Option.some.inj hf
  refine W.widen (k := 4) (n := 256) (Nat.le_of_ble_eq_true rfl) (Nat.le_of_ble_eq_true rfl) ?_
  exact r_vretA hsz G w hm (fun h => rfl) (congrArg Prod.fst e9) (congrArg Prod.snd e9) (dcs_get dec_X3_init_0 18 rfl)
end
set_option maxRecDepth 100000 in
set_option maxHeartbeats 16000000 in
theorem C_X3_init {l : Launch} {D : va_G} {ay : Nat → ClassId} {ad : Nat → Nat} {n n' sz : Nat} {σ σ' : hSt} (hi : hInj n ad) (hR : RO n σ) (a0 : Nat) (hf : F_X3_init a0 n σ = some (n', σ')) (k_a0 : a0 < n ∧ (kC a0).1 = 3) : hMA l D ay kC n ad sz yX3_init cX3_init 1 (rmA 1 20 4 256) [.ref (ad a0)] σ true n' σ' 4 256 := by
  refine hMA_in (by decide) rfl hi hR (Nat.le_of_ble_eq_true rfl) ?_
  intro p e s m below meth c hsz G hm w ls hl
  exact B_X3_init a0 n σ hsz G hm hf k_a0 w hl

/-! HillDrums.Loop.<init> -/
def DL_X1_init_0 : List (Nat × Instr × Nat) := [(0, .aload_n 0, 1), (1, .invokespecial 3, 3), (4, .aload_n 0, 1), (5, .iconst 3, 1), (6, .newarray .int, 2), (8, .putfield 9, 3), (11, .aload_n 0, 1), (12, .iconst 0, 1), (13, .putfield 15, 3), (16, .aload_n 0, 1), (17, .new 19, 3), (20, .dup, 1), (21, .invokespecial 21, 3), (24, .putfield 22, 3), (27, .aload_n 0, 1), (28, .new 19, 3), (31, .dup, 1), (32, .invokespecial 21, 3), (35, .putfield 26, 3), (38, .return_, 1)]
set_option maxRecDepth 100000 in
theorem dec_X1_init_0 : dcs cX1_init DL_X1_init_0 = true := by decide +kernel
theorem lb_X1_init : lkB yX1_init cX1_init 1 (none) 0 := ⟨q_346, q_12, ⟨by decide, by decide⟩, by decide +kernel⟩
set_option maxRecDepth 100000 in
def F_X1_init (a0 : Nat) (n : Nat) (σ : hSt) : Option (Nat × hSt) :=
cG (kC n == (101, 3)) <|
cL (zO σ n) fun σ2 =>
cL (n + 1) fun n3 =>
cL (uP σ2 a0 0 (some n)) fun σ5 =>
cL (uI σ5 a0 1 (0 : Int32)) fun σ6 =>
cG (kC n3 == (10, 0)) <|
cL (zO σ6 n3) fun σ8 =>
cL (n3 + 1) fun n9 =>
cC (F_X10_init n3 n9 σ8) fun n13 σ12 =>
cL (uP σ12 a0 2 (some n3)) fun σ15 =>
cG (kC n13 == (10, 0)) <|
cL (zO σ15 n13) fun σ17 =>
cL (n13 + 1) fun n18 =>
cC (F_X10_init n13 n18 σ17) fun n22 σ21 =>
cL (uP σ21 a0 3 (some n13)) fun σ24 =>
some (n22, σ24)
section
variable {p : Program} {l : Launch} {e : Env} {s : State} {m : MethodId} {args : Array Value} {below : List Frame} {meth : Method} {c : Code} {D : va_G} {ay : Nat → ClassId} {ad : Nat → Nat}
set_option maxRecDepth 100000 in
set_option maxHeartbeats 16000000 in
theorem B_X1_init {n0 : Nat} {ad0 : Nat → Nat} {sz n' : Nat} {σ' : hSt} {H : Heap} {locs : List Loc} {ls : Array Slot} (a0 : Nat) (n : Nat) (σ : hSt) (hsz : s.heap.size = sz) (G : Gy p m c cX1_init 1 s args RX1 D ay (aZ n0 ad0 sz)) (hm : meth.sig.returnType = none ∧ meth.locks = false ∧ meth.name = "<init>") (hf : F_X1_init a0 n σ = some (n', σ')) (k_a0 : a0 < n ∧ (kC a0).1 = 1) (w : Wa D ay kC n0 ad0 true n ad (aZ n0 ad0 sz) s σ H locs) (hl : lv_has ls 1 [(0, .ref (ad a0))]) : W p l e (rmA 2 40 9 243) s m args below meth c H locs 0 0 (MQ below (cA D ay kC n0 ad0 sz true n' σ') args s 9 243 (aZ n0 ad0 sz)) (F0 m 0 ls []) := by
  unfold F_X1_init at hf
  refine lv_aload_n G.1.1 G.1.2.1 (dcs_get dec_X1_init_0 0 rfl) rfl (lv_at hl 0 rfl) ?_
  refine r_objI q_347 q_29 q_30 ⟨Nat.le_of_ble_eq_true rfl, Nat.le_of_ble_eq_true rfl⟩ G hl.1 (dcs_get dec_X1_init_0 1 rfl) ?_
  refine lv_aload_n G.1.1 G.1.2.1 (dcs_get dec_X1_init_0 2 rfl) rfl (lv_at hl 0 rfl) ?_
  refine lv_iconst (v := (3 : Int32)) G.1.1 G.1.2.1 (dcs_get dec_X1_init_0 3 rfl) (by decide) ?_
  obtain ⟨h1, hf⟩ := cG_some hf
  obtain ⟨σ2, e_σ2, hf⟩ := cL_some hf
  obtain ⟨n3, e_n3, hf⟩ := cL_some hf
  refine r_newI (N := 3) (t0 := 1) (ty := .int) ⟨by decide, by decide⟩ (by simp) rfl q_73 (Nat.le_of_ble_eq_true rfl) G w h1 ⟨Nat.le_of_ble_eq_true rfl, Nat.le_of_ble_eq_true rfl⟩ (dcs_get dec_X1_init_0 4 rfl) (fun H ad1 e4 w => ?_)
  rw [← e4 a0 k_a0.1] at hl
  rw [← e4 a0 k_a0.1]
  have k_a0 := And.intro (Nat.lt_of_lt_of_le k_a0.1 (by omega : n ≤ n3)) k_a0.2
  have k_n : n < n3 ∧ (kC n).1 = 101 := ⟨by omega, by rw [eq_of_beq h1]⟩
  have w := Wa_nm e_n3 e_σ2 w
  generalize ad1 = ad at hl w ⊢
  clear e4
  obtain ⟨σ5, e_σ5, hf⟩ := cL_some hf
  refine r_putrF (k := 0) cls1 ctf1 fi_1_0.1 fi_1_0.2 rfl rfl (ctf1.1 0 fi_1_0.1) q_350 (fun _ => rfl) (fun _ => rfl) hm.2.2 (G.gx w) w.1 k_a0.1 k_a0.2 (dcs_get dec_X1_init_0 5 rfl) (fun H locs w1 => ?_)
  have w := Wa_uP e_σ5 k_n.1 w w1
  refine lv_aload_n G.1.1 G.1.2.1 (dcs_get dec_X1_init_0 6 rfl) rfl (lv_at hl 0 rfl) ?_
  refine lv_iconst (v := (0 : Int32)) G.1.1 G.1.2.1 (dcs_get dec_X1_init_0 7 rfl) (by decide) ?_
  obtain ⟨σ6, e_σ6, hf⟩ := cL_some hf
  refine r_puti (k := 1) cls1 ct1 fi_1_1.1 fi_1_1.2 fp_1_1.1 fp_1_1.2 q_352 rfl rfl (G.gx w) w.1 k_a0.1 k_a0.2 (dcs_get dec_X1_init_0 8 rfl) (fun H locs w1 => ?_)
  have w := Wa_uI e_σ6 w w1
  refine lv_aload_n G.1.1 G.1.2.1 (dcs_get dec_X1_init_0 9 rfl) rfl (lv_at hl 0 rfl) ?_
  obtain ⟨h7, hf⟩ := cG_some hf
  obtain ⟨σ8, e_σ8, hf⟩ := cL_some hf
  obtain ⟨n9, e_n9, hf⟩ := cL_some hf
  refine r_new cls10 ctf10 okt10 q_348 q_228 q_8 G w h7 ⟨Nat.le_of_ble_eq_true rfl, Nat.le_of_ble_eq_true rfl⟩ (dcs_get dec_X1_init_0 10 rfl) (fun H ad1 e10 w => ?_)
  rw [← e10 a0 k_a0.1] at hl
  rw [← e10 a0 k_a0.1]
  have k_a0 := And.intro (Nat.lt_of_lt_of_le k_a0.1 (by omega : n3 ≤ n9)) k_a0.2
  have k_n3 : n3 < n9 ∧ (kC n3).1 = 10 := ⟨by omega, by rw [eq_of_beq h7]⟩
  have w := Wa_nm e_n9 e_σ8 w
  generalize ad1 = ad at hl w ⊢
  clear e10
  refine lv_dup G.1.1 G.1.2.1 (dcs_get dec_X1_init_0 11 rfl) rfl ?_
  obtain ⟨n13, σ12, h11, hf⟩ := cC_some hf
  refine a_A (k_IN (As := []) (rest := [.ref (ad n3), .ref (ad a0)]) lb_X10_init rfl q_230 nm_349 (C_X10_init w.2.1 (w.2.2.2.2 rfl) n3 h11 k_n3) ⟨Nat.le_of_ble_eq_true rfl, Nat.le_of_ble_eq_true rfl⟩ G w rfl rfl hl.1 (Nat.le_of_ble_eq_true rfl) (dcs_get dec_X1_init_0 12 rfl) ⟨Nat.le_of_ble_eq_true rfl, Nat.le_of_ble_eq_true rfl⟩) G w (fun H locs ad1 e14 w => ?_)
  rw [← e14.2 a0 k_a0.1] at hl
  rw [← e14.2 a0 k_a0.1]
  rw [← e14.2 n3 k_n3.1]
  have k_a0 := And.intro (Nat.lt_of_lt_of_le k_a0.1 e14.1) k_a0.2
  have k_n3 := And.intro (Nat.lt_of_lt_of_le k_n3.1 e14.1) k_n3.2
  generalize ad1 = ad at hl w ⊢
  clear e14
  obtain ⟨σ15, e_σ15, hf⟩ := cL_some hf
  refine r_putrF (k := 2) cls1 ctf1 fi_1_2.1 fi_1_2.2 rfl rfl (ctf1.1 2 fi_1_2.1) q_354 (fun _ => rfl) (fun _ => rfl) hm.2.2 (G.gx w) w.1 k_a0.1 k_a0.2 (dcs_get dec_X1_init_0 13 rfl) (fun H locs w1 => ?_)
  have w := Wa_uP e_σ15 k_n3.1 w w1
  refine lv_aload_n G.1.1 G.1.2.1 (dcs_get dec_X1_init_0 14 rfl) rfl (lv_at hl 0 rfl) ?_
  obtain ⟨h16, hf⟩ := cG_some hf
  obtain ⟨σ17, e_σ17, hf⟩ := cL_some hf
  obtain ⟨n18, e_n18, hf⟩ := cL_some hf
  refine r_new cls10 ctf10 okt10 q_348 q_228 q_8 G w h16 ⟨Nat.le_of_ble_eq_true rfl, Nat.le_of_ble_eq_true rfl⟩ (dcs_get dec_X1_init_0 15 rfl) (fun H ad1 e19 w => ?_)
  rw [← e19 a0 k_a0.1] at hl
  rw [← e19 a0 k_a0.1]
  have k_a0 := And.intro (Nat.lt_of_lt_of_le k_a0.1 (by omega : n13 ≤ n18)) k_a0.2
  have k_n13 : n13 < n18 ∧ (kC n13).1 = 10 := ⟨by omega, by rw [eq_of_beq h16]⟩
  have w := Wa_nm e_n18 e_σ17 w
  generalize ad1 = ad at hl w ⊢
  clear e19
  refine lv_dup G.1.1 G.1.2.1 (dcs_get dec_X1_init_0 16 rfl) rfl ?_
  obtain ⟨n22, σ21, h20, hf⟩ := cC_some hf
  refine a_A (k_IN (As := []) (rest := [.ref (ad n13), .ref (ad a0)]) lb_X10_init rfl q_230 nm_349 (C_X10_init w.2.1 (w.2.2.2.2 rfl) n13 h20 k_n13) ⟨Nat.le_of_ble_eq_true rfl, Nat.le_of_ble_eq_true rfl⟩ G w rfl rfl hl.1 (Nat.le_of_ble_eq_true rfl) (dcs_get dec_X1_init_0 17 rfl) ⟨Nat.le_of_ble_eq_true rfl, Nat.le_of_ble_eq_true rfl⟩) G w (fun H locs ad1 e23 w => ?_)
  rw [← e23.2 a0 k_a0.1] at hl
  rw [← e23.2 a0 k_a0.1]
  rw [← e23.2 n13 k_n13.1]
  have k_a0 := And.intro (Nat.lt_of_lt_of_le k_a0.1 e23.1) k_a0.2
  have k_n13 := And.intro (Nat.lt_of_lt_of_le k_n13.1 e23.1) k_n13.2
  generalize ad1 = ad at hl w ⊢
  clear e23
  obtain ⟨σ24, e_σ24, hf⟩ := cL_some hf
  refine r_putrF (k := 3) cls1 ctf1 fi_1_3.1 fi_1_3.2 rfl rfl (ctf1.1 3 fi_1_3.1) q_355 (fun _ => rfl) (fun _ => rfl) hm.2.2 (G.gx w) w.1 k_a0.1 k_a0.2 (dcs_get dec_X1_init_0 18 rfl) (fun H locs w1 => ?_)
  have w := Wa_uP e_σ24 k_n13.1 w w1
  have e9 := Option.some.inj hf
  refine W.widen (k := 9) (n := 243) (Nat.le_of_ble_eq_true rfl) (Nat.le_of_ble_eq_true rfl) ?_
  exact r_vretA hsz G w hm (fun h => rfl) (congrArg Prod.fst e9) (congrArg Prod.snd e9) (dcs_get dec_X1_init_0 19 rfl)
end
set_option maxRecDepth 100000 in
set_option maxHeartbeats 16000000 in
theorem C_X1_init {l : Launch} {D : va_G} {ay : Nat → ClassId} {ad : Nat → Nat} {n n' sz : Nat} {σ σ' : hSt} (hi : hInj n ad) (hR : RO n σ) (a0 : Nat) (hf : F_X1_init a0 n σ = some (n', σ')) (k_a0 : a0 < n ∧ (kC a0).1 = 1) : hMA l D ay kC n ad sz yX1_init cX1_init 1 (rmA 2 40 9 243) [.ref (ad a0)] σ true n' σ' 9 243 := by
  refine hMA_in (by decide) rfl hi hR (Nat.le_of_ble_eq_true rfl) ?_
  intro p e s m below meth c hsz G hm w ls hl
  exact B_X1_init a0 n σ hsz G hm hf k_a0 w hl

/-! HillDrums.<init> -/
def DL_X11_init_0 : List (Nat × Instr × Nat) := [(0, .aload_n 0, 1), (1, .invokespecial 1, 3), (4, .aload_n 0, 1), (5, .new 7, 3), (8, .dup, 1), (9, .invokespecial 9, 3), (12, .putfield 10, 3), (15, .aload_n 0, 1), (16, .new 16, 3), (19, .dup, 1), (20, .invokespecial 18, 3), (23, .putfield 19, 3), (26, .aload_n 0, 1), (27, .new 16, 3), (30, .dup, 1), (31, .invokespecial 18, 3), (34, .putfield 23, 3), (37, .aload_n 0, 1), (38, .new 26, 3), (41, .dup, 1), (42, .aload_n 0, 1), (43, .getfield 23, 3), (46, .invokespecial 28, 3), (49, .putfield 31, 3), (52, .aload_n 0, 1), (53, .iconst (-1), 1), (54, .putfield 35, 3), (57, .aload_n 0, 1), (58, .new 39, 3), (61, .dup, 1), (62, .invokespecial 41, 3), (65, .putfield 42, 3), (68, .aload_n 0, 1), (69, .new 39, 3), (72, .dup, 1), (73, .invokespecial 41, 3), (76, .putfield 46, 3), (79, .aload_n 0, 1), (80, .new 49, 3), (83, .dup, 1)]
set_option maxRecDepth 100000 in
theorem dec_X11_init_0 : dcs cX11_init DL_X11_init_0 = true := by decide +kernel
def DL_X11_init_1 : List (Nat × Instr × Nat) := [(84, .invokespecial 51, 3), (87, .putfield 52, 3), (90, .aload_n 0, 1), (91, .iconst 3, 1), (92, .anewarray 39, 3), (95, .putfield 56, 3), (98, .aload_n 0, 1), (99, .iconst 0, 1), (100, .putfield 60, 3), (103, .aload_n 0, 1), (104, .new 63, 3), (107, .dup, 1), (108, .invokespecial 65, 3), (111, .putfield 66, 3), (114, .aload_n 0, 1), (115, .new 70, 3), (118, .dup, 1), (119, .invokespecial 72, 3), (122, .putfield 73, 3), (125, .aload_n 0, 1), (126, .new 77, 3), (129, .dup, 1), (130, .invokespecial 79, 3), (133, .putfield 80, 3), (136, .iconst 0, 1), (137, .istore_n 1, 1), (138, .iload_n 1, 1), (139, .iconst 3, 1), (140, .if_icmp .ge 22, 3), (143, .aload_n 0, 1), (144, .getfield 56, 3), (147, .iload_n 1, 1), (148, .new 39, 3), (151, .dup, 1), (152, .invokespecial 41, 3), (155, .aastore, 1), (156, .iinc 1 1, 3), (159, .goto (-21), 3), (162, .aload_n 0, 1), (163, .getfield 19, 3)]
set_option maxRecDepth 100000 in
theorem dec_X11_init_1 : dcs cX11_init DL_X11_init_1 = true := by decide +kernel
def DL_X11_init_2 : List (Nat × Instr × Nat) := [(166, .invokevirtual 84, 3), (169, .aload_n 0, 1), (170, .getfield 42, 3), (173, .aload_n 0, 1), (174, .getfield 19, 3), (177, .invokevirtual 87, 3), (180, .return_, 1)]
set_option maxRecDepth 100000 in
theorem dec_X11_init_2 : dcs cX11_init DL_X11_init_2 = true := by decide +kernel
theorem lb_X11_init : lkB yX11_init cX11_init 2 (none) 0 := ⟨q_27, q_1, ⟨by decide, by decide⟩, by decide +kernel⟩
set_option maxRecDepth 100000 in
def F_X11_init (a0 : Nat) (n : Nat) (σ : hSt) : Option (Nat × hSt) :=
cG (kC n == (6, 0)) <|
cL (zO σ n) fun σ2 =>
cL (n + 1) fun n3 =>
cC (F_X6_init n n3 σ2) fun n7 σ6 =>
cL (uP σ6 a0 0 (some n)) fun σ9 =>
cG (kC n7 == (7, 0)) <|
cL (zO σ9 n7) fun σ11 =>
cL (n7 + 1) fun n12 =>
cC (F_X7_init n7 n12 σ11) fun n16 σ15 =>
cL (uP σ15 a0 1 (some n7)) fun σ18 =>
cG (kC n16 == (7, 0)) <|
cL (zO σ18 n16) fun σ20 =>
cL (n16 + 1) fun n21 =>
cC (F_X7_init n16 n21 σ20) fun n25 σ24 =>
cL (uP σ24 a0 2 (some n16)) fun σ27 =>
cG (kC n25 == (4, 0)) <|
cL (zO σ27 n25) fun σ29 =>
cL (n25 + 1) fun n30 =>
cR (σ29.2.2 a0 2) (okr kC n30 7) fun z32 =>
cC (F_X4_init n25 z32 n30 σ29) fun n35 σ34 =>
cL (uP σ34 a0 3 (some n25)) fun σ37 =>
cL (uI σ37 a0 4 (-1 : Int32)) fun σ38 =>
cG (kC n35 == (10, 0)) <|
cL (zO σ38 n35) fun σ40 =>
cL (n35 + 1) fun n41 =>
cC (F_X10_init n35 n41 σ40) fun n45 σ44 =>
cL (uP σ44 a0 5 (some n35)) fun σ47 =>
cG (kC n45 == (10, 0)) <|
cL (zO σ47 n45) fun σ49 =>
cL (n45 + 1) fun n50 =>
cC (F_X10_init n45 n50 σ49) fun n54 σ53 =>
cL (uP σ53 a0 6 (some n45)) fun σ56 =>
cG (kC n54 == (2, 0)) <|
cL (zO σ56 n54) fun σ58 =>
cL (n54 + 1) fun n59 =>
cC (F_X2_init n54 n59 σ58) fun n63 σ62 =>
cL (uP σ62 a0 7 (some n54)) fun σ65 =>
cG (kC n63 == (105, 3)) <|
cL (zO σ65 n63) fun σ67 =>
cL (n63 + 1) fun n68 =>
cL (uP σ67 a0 8 (some n63)) fun σ70 =>
cL (uI σ70 a0 9 (0 : Int32)) fun σ71 =>
cG (kC n68 == (9, 0)) <|
cL (zO σ71 n68) fun σ73 =>
cL (n68 + 1) fun n74 =>
cC (F_X9_init n68 n74 σ73) fun n78 σ77 =>
cL (uP σ77 a0 10 (some n68)) fun σ80 =>
cG (kC n78 == (3, 0)) <|
cL (zO σ80 n78) fun σ82 =>
cL (n78 + 1) fun n83 =>
cC (F_X3_init n78 n83 σ82) fun n87 σ86 =>
cL (uP σ86 a0 11 (some n78)) fun σ89 =>
cG (kC n87 == (1, 0)) <|
cL (zO σ89 n87) fun σ91 =>
cL (n87 + 1) fun n92 =>
cC (F_X1_init n87 n92 σ91) fun n96 σ95 =>
cL (uP σ95 a0 12 (some n87)) fun σ98 =>
cR (σ98.2.2 a0 8) (okr kC n96 105) fun z99 =>
cG (kC n96 == (10, 0)) <|
cL (zO σ98 n96) fun σ101 =>
cL (n96 + 1) fun n102 =>
cC (F_X10_init n96 n102 σ101) fun n106 σ105 =>
cG (inb (0 : Int32) (kC z99).2) <|
cL (uP σ105 z99 (0 : Int32).toNatClampNeg (some n96)) fun σ109 =>
cR (σ109.2.2 a0 8) (okr kC n106 105) fun z110 =>
cG (kC n106 == (10, 0)) <|
cL (zO σ109 n106) fun σ112 =>
cL (n106 + 1) fun n113 =>
cC (F_X10_init n106 n113 σ112) fun n117 σ116 =>
cG (inb (1 : Int32) (kC z110).2) <|
cL (uP σ116 z110 (1 : Int32).toNatClampNeg (some n106)) fun σ120 =>
cR (σ120.2.2 a0 8) (okr kC n117 105) fun z121 =>
cG (kC n117 == (10, 0)) <|
cL (zO σ120 n117) fun σ123 =>
cL (n117 + 1) fun n124 =>
cC (F_X10_init n117 n124 σ123) fun n128 σ127 =>
cG (inb (2 : Int32) (kC z121).2) <|
cL (uP σ127 z121 (2 : Int32).toNatClampNeg (some n117)) fun σ131 =>
cR (σ131.2.2 a0 1) (okr kC n128 7) fun z132 =>
cG (n128 == NC) <|
(F_X7_clear z132 σ131).bind fun σ135 =>
cR (σ135.2.2 a0 5) (okr kC NC 10) fun z136 =>
cR (σ135.2.2 a0 1) (okr kC NC 7) fun z137 =>
(F_X10_begin z136 z137 σ135).bind fun σ139 =>
some (NC, σ139)
section
variable {p : Program} {l : Launch} {e : Env} {s : State} {m : MethodId} {args : Array Value} {below : List Frame} {meth : Method} {c : Code} {D : va_G} {ay : Nat → ClassId} {ad : Nat → Nat}
set_option maxRecDepth 100000 in
set_option maxHeartbeats 16000000 in
theorem B_X11_init {n0 : Nat} {ad0 : Nat → Nat} {sz n' : Nat} {σ' : hSt} {H : Heap} {locs : List Loc} {ls : Array Slot} (a0 : Nat) (n : Nat) (σ : hSt) (hsz : s.heap.size = sz) (G : Gy p m c cX11_init 2 s args RX11 D ay (aZ n0 ad0 sz)) (hm : meth.sig.returnType = none ∧ meth.locks = false ∧ meth.name = "<init>") (hf : F_X11_init a0 n σ = some (n', σ')) (k_a0 : a0 < n ∧ (kC a0).1 = 11) (w : Wa D ay kC n0 ad0 true n ad (aZ n0 ad0 sz) s σ H locs) (hl : lv_has ls 2 [(0, .ref (ad a0))]) : W p l e (rmA 3 66 245 11298) s m args below meth c H locs 0 0 (MQ below (cA D ay kC n0 ad0 sz false n' σ') args s 245 11298 (aZ n0 ad0 sz)) (F0 m 0 ls []) := by
  unfold F_X11_init at hf
  refine lv_aload_n G.1.1 G.1.2.1 (dcs_get dec_X11_init_0 0 rfl) rfl (lv_at hl 0 rfl) ?_
  refine r_objI q_28 q_29 q_30 ⟨Nat.le_of_ble_eq_true rfl, Nat.le_of_ble_eq_true rfl⟩ G hl.1 (dcs_get dec_X11_init_0 1 rfl) ?_
  refine lv_aload_n G.1.1 G.1.2.1 (dcs_get dec_X11_init_0 2 rfl) rfl (lv_at hl 0 rfl) ?_
  obtain ⟨h1, hf⟩ := cG_some hf
  obtain ⟨σ2, e_σ2, hf⟩ := cL_some hf
  obtain ⟨n3, e_n3, hf⟩ := cL_some hf
  refine r_new cls6 ctf6 okt6 q_31 q_32 q_2 G w h1 ⟨Nat.le_of_ble_eq_true rfl, Nat.le_of_ble_eq_true rfl⟩ (dcs_get dec_X11_init_0 3 rfl) (fun H ad1 e4 w => ?_)
  rw [← e4 a0 k_a0.1] at hl
  rw [← e4 a0 k_a0.1]
  have k_a0 := And.intro (Nat.lt_of_lt_of_le k_a0.1 (by omega : n ≤ n3)) k_a0.2
  have k_n : n < n3 ∧ (kC n).1 = 6 := ⟨by omega, by rw [eq_of_beq h1]⟩
  have w := Wa_nm e_n3 e_σ2 w
  generalize ad1 = ad at hl w ⊢
  clear e4
  refine lv_dup G.1.1 G.1.2.1 (dcs_get dec_X11_init_0 4 rfl) rfl ?_
  obtain ⟨n7, σ6, h5, hf⟩ := cC_some hf
  refine a_A (k_IN (As := []) (rest := [.ref (ad n), .ref (ad a0)]) lb_X6_init rfl q_34 nm_33 (C_X6_init w.2.1 (w.2.2.2.2 rfl) n h5 k_n) ⟨Nat.le_of_ble_eq_true rfl, Nat.le_of_ble_eq_true rfl⟩ G w rfl rfl hl.1 (Nat.le_of_ble_eq_true rfl) (dcs_get dec_X11_init_0 5 rfl) ⟨Nat.le_of_ble_eq_true rfl, Nat.le_of_ble_eq_true rfl⟩) G w (fun H locs ad1 e8 w => ?_)
  rw [← e8.2 a0 k_a0.1] at hl
  rw [← e8.2 a0 k_a0.1]
  rw [← e8.2 n k_n.1]
  have k_a0 := And.intro (Nat.lt_of_lt_of_le k_a0.1 e8.1) k_a0.2
  have k_n := And.intro (Nat.lt_of_lt_of_le k_n.1 e8.1) k_n.2
  generalize ad1 = ad at hl w ⊢
  clear e8
  obtain ⟨σ9, e_σ9, hf⟩ := cL_some hf
  refine r_putrF (k := 0) cls11 ctf11 fi_11_0.1 fi_11_0.2 rfl rfl (ctf11.1 0 fi_11_0.1) q_391 (fun _ => rfl) (fun _ => rfl) hm.2.2 (G.gx w) w.1 k_a0.1 k_a0.2 (dcs_get dec_X11_init_0 6 rfl) (fun H locs w1 => ?_)
  have w := Wa_uP e_σ9 k_n.1 w w1
  refine lv_aload_n G.1.1 G.1.2.1 (dcs_get dec_X11_init_0 7 rfl) rfl (lv_at hl 0 rfl) ?_
  obtain ⟨h10, hf⟩ := cG_some hf
  obtain ⟨σ11, e_σ11, hf⟩ := cL_some hf
  obtain ⟨n12, e_n12, hf⟩ := cL_some hf
  refine r_new cls7 ctf7 okt7 q_47 q_48 q_3 G w h10 ⟨Nat.le_of_ble_eq_true rfl, Nat.le_of_ble_eq_true rfl⟩ (dcs_get dec_X11_init_0 8 rfl) (fun H ad1 e13 w => ?_)
  rw [← e13 a0 k_a0.1] at hl
  rw [← e13 a0 k_a0.1]
  have k_a0 := And.intro (Nat.lt_of_lt_of_le k_a0.1 (by omega : n7 ≤ n12)) k_a0.2
  have k_n7 : n7 < n12 ∧ (kC n7).1 = 7 := ⟨by omega, by rw [eq_of_beq h10]⟩
  have w := Wa_nm e_n12 e_σ11 w
  generalize ad1 = ad at hl w ⊢
  clear e13
  refine lv_dup G.1.1 G.1.2.1 (dcs_get dec_X11_init_0 9 rfl) rfl ?_
  obtain ⟨n16, σ15, h14, hf⟩ := cC_some hf
  refine a_A (k_IN (As := []) (rest := [.ref (ad n7), .ref (ad a0)]) lb_X7_init rfl q_50 nm_49 (C_X7_init w.2.1 (w.2.2.2.2 rfl) n7 h14 k_n7) ⟨Nat.le_of_ble_eq_true rfl, Nat.le_of_ble_eq_true rfl⟩ G w rfl rfl hl.1 (Nat.le_of_ble_eq_true rfl) (dcs_get dec_X11_init_0 10 rfl) ⟨Nat.le_of_ble_eq_true rfl, Nat.le_of_ble_eq_true rfl⟩) G w (fun H locs ad1 e17 w => ?_)
  rw [← e17.2 a0 k_a0.1] at hl
  rw [← e17.2 n7 k_n7.1]
  rw [← e17.2 a0 k_a0.1]
  have k_a0 := And.intro (Nat.lt_of_lt_of_le k_a0.1 e17.1) k_a0.2
  have k_n7 := And.intro (Nat.lt_of_lt_of_le k_n7.1 e17.1) k_n7.2
  generalize ad1 = ad at hl w ⊢
  clear e17
  obtain ⟨σ18, e_σ18, hf⟩ := cL_some hf
  refine r_putr (k := 1) cls11 ct11 fi_11_1.1 fi_11_1.2 fp_11_1.1 fp_11_1.2 q_392 (fun _ => rfl) (fun _ => rfl) (G.gx w) w.1 k_a0.1 k_a0.2 (dcs_get dec_X11_init_0 11 rfl) (fun H locs w1 => ?_)
  have w := Wa_uP e_σ18 k_n7.1 w w1
  refine lv_aload_n G.1.1 G.1.2.1 (dcs_get dec_X11_init_0 12 rfl) rfl (lv_at hl 0 rfl) ?_
  obtain ⟨h19, hf⟩ := cG_some hf
  obtain ⟨σ20, e_σ20, hf⟩ := cL_some hf
  obtain ⟨n21, e_n21, hf⟩ := cL_some hf
  refine r_new cls7 ctf7 okt7 q_47 q_48 q_3 G w h19 ⟨Nat.le_of_ble_eq_true rfl, Nat.le_of_ble_eq_true rfl⟩ (dcs_get dec_X11_init_0 13 rfl) (fun H ad1 e22 w => ?_)
  rw [← e22 a0 k_a0.1] at hl
  rw [← e22 a0 k_a0.1]
  have k_a0 := And.intro (Nat.lt_of_lt_of_le k_a0.1 (by omega : n16 ≤ n21)) k_a0.2
  have k_n16 : n16 < n21 ∧ (kC n16).1 = 7 := ⟨by omega, by rw [eq_of_beq h19]⟩
  have w := Wa_nm e_n21 e_σ20 w
  generalize ad1 = ad at hl w ⊢
  clear e22
  refine lv_dup G.1.1 G.1.2.1 (dcs_get dec_X11_init_0 14 rfl) rfl ?_
  obtain ⟨n25, σ24, h23, hf⟩ := cC_some hf
  refine a_A (k_IN (As := []) (rest := [.ref (ad n16), .ref (ad a0)]) lb_X7_init rfl q_50 nm_49 (C_X7_init w.2.1 (w.2.2.2.2 rfl) n16 h23 k_n16) ⟨Nat.le_of_ble_eq_true rfl, Nat.le_of_ble_eq_true rfl⟩ G w rfl rfl hl.1 (Nat.le_of_ble_eq_true rfl) (dcs_get dec_X11_init_0 15 rfl) ⟨Nat.le_of_ble_eq_true rfl, Nat.le_of_ble_eq_true rfl⟩) G w (fun H locs ad1 e26 w => ?_)
  rw [← e26.2 a0 k_a0.1] at hl
  rw [← e26.2 n16 k_n16.1]
  rw [← e26.2 a0 k_a0.1]
  have k_a0 := And.intro (Nat.lt_of_lt_of_le k_a0.1 e26.1) k_a0.2
  have k_n16 := And.intro (Nat.lt_of_lt_of_le k_n16.1 e26.1) k_n16.2
  generalize ad1 = ad at hl w ⊢
  clear e26
  obtain ⟨σ27, e_σ27, hf⟩ := cL_some hf
  refine r_putr (k := 2) cls11 ct11 fi_11_2.1 fi_11_2.2 fp_11_2.1 fp_11_2.2 q_393 (fun _ => rfl) (fun _ => rfl) (G.gx w) w.1 k_a0.1 k_a0.2 (dcs_get dec_X11_init_0 16 rfl) (fun H locs w1 => ?_)
  have w := Wa_uP e_σ27 k_n16.1 w w1
  refine lv_aload_n G.1.1 G.1.2.1 (dcs_get dec_X11_init_0 17 rfl) rfl (lv_at hl 0 rfl) ?_
  obtain ⟨h28, hf⟩ := cG_some hf
  obtain ⟨σ29, e_σ29, hf⟩ := cL_some hf
  obtain ⟨n30, e_n30, hf⟩ := cL_some hf
  refine r_new cls4 ctf4 okt4 q_172 q_173 q_6 G w h28 ⟨Nat.le_of_ble_eq_true rfl, Nat.le_of_ble_eq_true rfl⟩ (dcs_get dec_X11_init_0 18 rfl) (fun H ad1 e31 w => ?_)
  rw [← e31 a0 k_a0.1] at hl
  rw [← e31 a0 k_a0.1]
  have k_a0 := And.intro (Nat.lt_of_lt_of_le k_a0.1 (by omega : n25 ≤ n30)) k_a0.2
  have k_n25 : n25 < n30 ∧ (kC n25).1 = 4 := ⟨by omega, by rw [eq_of_beq h28]⟩
  have w := Wa_nm e_n30 e_σ29 w
  generalize ad1 = ad at hl w ⊢
  clear e31
  refine lv_dup G.1.1 G.1.2.1 (dcs_get dec_X11_init_0 19 rfl) rfl ?_
  refine lv_aload_n G.1.1 G.1.2.1 (dcs_get dec_X11_init_0 20 rfl) rfl (lv_at hl 0 rfl) ?_
  obtain ⟨z32, e_z32, ok_z32, hf⟩ := cR_some hf
  have k_z32 := okr_in ok_z32
  refine r_getr (k := 2) cls11 fi_11_2.1 fi_11_2.2 q_393 (G.gx w) w.1 k_a0.1 k_a0.2 e_z32 (dcs_get dec_X11_init_0 21 rfl) ?_
  obtain ⟨n35, σ34, h33, hf⟩ := cC_some hf
  refine a_A (k_IN (As := [.ref (ad z32)]) (rest := [.ref (ad n25), .ref (ad a0)]) lb_X4_init rfl q_175 nm_174 (C_X4_init w.2.1 (w.2.2.2.2 rfl) n25 z32 h33 k_n25 k_z32) ⟨Nat.le_of_ble_eq_true rfl, Nat.le_of_ble_eq_true rfl⟩ G w rfl rfl hl.1 (Nat.le_of_ble_eq_true rfl) (dcs_get dec_X11_init_0 22 rfl) ⟨Nat.le_of_ble_eq_true rfl, Nat.le_of_ble_eq_true rfl⟩) G w (fun H locs ad1 e36 w => ?_)
  rw [← e36.2 a0 k_a0.1] at hl
  rw [← e36.2 a0 k_a0.1]
  rw [← e36.2 n25 k_n25.1]
  have k_a0 := And.intro (Nat.lt_of_lt_of_le k_a0.1 e36.1) k_a0.2
  have k_n25 := And.intro (Nat.lt_of_lt_of_le k_n25.1 e36.1) k_n25.2
  generalize ad1 = ad at hl w ⊢
  clear e36
  obtain ⟨σ37, e_σ37, hf⟩ := cL_some hf
  refine r_putrF (k := 3) cls11 ctf11 fi_11_3.1 fi_11_3.2 rfl rfl (ctf11.1 3 fi_11_3.1) q_394 (fun _ => rfl) (fun _ => rfl) hm.2.2 (G.gx w) w.1 k_a0.1 k_a0.2 (dcs_get dec_X11_init_0 23 rfl) (fun H locs w1 => ?_)
  have w := Wa_uP e_σ37 k_n25.1 w w1
  refine lv_aload_n G.1.1 G.1.2.1 (dcs_get dec_X11_init_0 24 rfl) rfl (lv_at hl 0 rfl) ?_
  refine lv_iconst (v := (-1 : Int32)) G.1.1 G.1.2.1 (dcs_get dec_X11_init_0 25 rfl) (by decide) ?_
  obtain ⟨σ38, e_σ38, hf⟩ := cL_some hf
  refine r_puti (k := 4) cls11 ct11 fi_11_4.1 fi_11_4.2 fp_11_4.1 fp_11_4.2 q_395 rfl rfl (G.gx w) w.1 k_a0.1 k_a0.2 (dcs_get dec_X11_init_0 26 rfl) (fun H locs w1 => ?_)
  have w := Wa_uI e_σ38 w w1
  refine lv_aload_n G.1.1 G.1.2.1 (dcs_get dec_X11_init_0 27 rfl) rfl (lv_at hl 0 rfl) ?_
  obtain ⟨h39, hf⟩ := cG_some hf
  obtain ⟨σ40, e_σ40, hf⟩ := cL_some hf
  obtain ⟨n41, e_n41, hf⟩ := cL_some hf
  refine r_new cls10 ctf10 okt10 q_227 q_228 q_8 G w h39 ⟨Nat.le_of_ble_eq_true rfl, Nat.le_of_ble_eq_true rfl⟩ (dcs_get dec_X11_init_0 28 rfl) (fun H ad1 e42 w => ?_)
  rw [← e42 a0 k_a0.1] at hl
  rw [← e42 a0 k_a0.1]
  have k_a0 := And.intro (Nat.lt_of_lt_of_le k_a0.1 (by omega : n35 ≤ n41)) k_a0.2
  have k_n35 : n35 < n41 ∧ (kC n35).1 = 10 := ⟨by omega, by rw [eq_of_beq h39]⟩
  have w := Wa_nm e_n41 e_σ40 w
  generalize ad1 = ad at hl w ⊢
  clear e42
  refine lv_dup G.1.1 G.1.2.1 (dcs_get dec_X11_init_0 29 rfl) rfl ?_
  obtain ⟨n45, σ44, h43, hf⟩ := cC_some hf
  refine a_A (k_IN (As := []) (rest := [.ref (ad n35), .ref (ad a0)]) lb_X10_init rfl q_230 nm_229 (C_X10_init w.2.1 (w.2.2.2.2 rfl) n35 h43 k_n35) ⟨Nat.le_of_ble_eq_true rfl, Nat.le_of_ble_eq_true rfl⟩ G w rfl rfl hl.1 (Nat.le_of_ble_eq_true rfl) (dcs_get dec_X11_init_0 30 rfl) ⟨Nat.le_of_ble_eq_true rfl, Nat.le_of_ble_eq_true rfl⟩) G w (fun H locs ad1 e46 w => ?_)
  rw [← e46.2 a0 k_a0.1] at hl
  rw [← e46.2 n35 k_n35.1]
  rw [← e46.2 a0 k_a0.1]
  have k_a0 := And.intro (Nat.lt_of_lt_of_le k_a0.1 e46.1) k_a0.2
  have k_n35 := And.intro (Nat.lt_of_lt_of_le k_n35.1 e46.1) k_n35.2
  generalize ad1 = ad at hl w ⊢
  clear e46
  obtain ⟨σ47, e_σ47, hf⟩ := cL_some hf
  refine r_putrF (k := 5) cls11 ctf11 fi_11_5.1 fi_11_5.2 rfl rfl (ctf11.1 5 fi_11_5.1) q_396 (fun _ => rfl) (fun _ => rfl) hm.2.2 (G.gx w) w.1 k_a0.1 k_a0.2 (dcs_get dec_X11_init_0 31 rfl) (fun H locs w1 => ?_)
  have w := Wa_uP e_σ47 k_n35.1 w w1
  refine lv_aload_n G.1.1 G.1.2.1 (dcs_get dec_X11_init_0 32 rfl) rfl (lv_at hl 0 rfl) ?_
  obtain ⟨h48, hf⟩ := cG_some hf
  obtain ⟨σ49, e_σ49, hf⟩ := cL_some hf
  obtain ⟨n50, e_n50, hf⟩ := cL_some hf
  refine r_new cls10 ctf10 okt10 q_227 q_228 q_8 G w h48 ⟨Nat.le_of_ble_eq_true rfl, Nat.le_of_ble_eq_true rfl⟩ (dcs_get dec_X11_init_0 33 rfl) (fun H ad1 e51 w => ?_)
  rw [← e51 a0 k_a0.1] at hl
  rw [← e51 a0 k_a0.1]
  have k_a0 := And.intro (Nat.lt_of_lt_of_le k_a0.1 (by omega : n45 ≤ n50)) k_a0.2
  have k_n45 : n45 < n50 ∧ (kC n45).1 = 10 := ⟨by omega, by rw [eq_of_beq h48]⟩
  have w := Wa_nm e_n50 e_σ49 w
  generalize ad1 = ad at hl w ⊢
  clear e51
  refine lv_dup G.1.1 G.1.2.1 (dcs_get dec_X11_init_0 34 rfl) rfl ?_
  obtain ⟨n54, σ53, h52, hf⟩ := cC_some hf
  refine a_A (k_IN (As := []) (rest := [.ref (ad n45), .ref (ad a0)]) lb_X10_init rfl q_230 nm_229 (C_X10_init w.2.1 (w.2.2.2.2 rfl) n45 h52 k_n45) ⟨Nat.le_of_ble_eq_true rfl, Nat.le_of_ble_eq_true rfl⟩ G w rfl rfl hl.1 (Nat.le_of_ble_eq_true rfl) (dcs_get dec_X11_init_0 35 rfl) ⟨Nat.le_of_ble_eq_true rfl, Nat.le_of_ble_eq_true rfl⟩) G w (fun H locs ad1 e55 w => ?_)
  rw [← e55.2 a0 k_a0.1] at hl
  rw [← e55.2 a0 k_a0.1]
  rw [← e55.2 n45 k_n45.1]
  have k_a0 := And.intro (Nat.lt_of_lt_of_le k_a0.1 e55.1) k_a0.2
  have k_n45 := And.intro (Nat.lt_of_lt_of_le k_n45.1 e55.1) k_n45.2
  generalize ad1 = ad at hl w ⊢
  clear e55
  obtain ⟨σ56, e_σ56, hf⟩ := cL_some hf
  refine r_putrF (k := 6) cls11 ctf11 fi_11_6.1 fi_11_6.2 rfl rfl (ctf11.1 6 fi_11_6.1) q_397 (fun _ => rfl) (fun _ => rfl) hm.2.2 (G.gx w) w.1 k_a0.1 k_a0.2 (dcs_get dec_X11_init_0 36 rfl) (fun H locs w1 => ?_)
  have w := Wa_uP e_σ56 k_n45.1 w w1
  refine lv_aload_n G.1.1 G.1.2.1 (dcs_get dec_X11_init_0 37 rfl) rfl (lv_at hl 0 rfl) ?_
  obtain ⟨h57, hf⟩ := cG_some hf
  obtain ⟨σ58, e_σ58, hf⟩ := cL_some hf
  obtain ⟨n59, e_n59, hf⟩ := cL_some hf
  refine r_new cls2 ctf2 okt2 q_282 q_283 q_9 G w h57 ⟨Nat.le_of_ble_eq_true rfl, Nat.le_of_ble_eq_true rfl⟩ (dcs_get dec_X11_init_0 38 rfl) (fun H ad1 e60 w => ?_)
  rw [← e60 a0 k_a0.1] at hl
  rw [← e60 a0 k_a0.1]
  have k_a0 := And.intro (Nat.lt_of_lt_of_le k_a0.1 (by omega : n54 ≤ n59)) k_a0.2
  have k_n54 : n54 < n59 ∧ (kC n54).1 = 2 := ⟨by omega, by rw [eq_of_beq h57]⟩
  have w := Wa_nm e_n59 e_σ58 w
  generalize ad1 = ad at hl w ⊢
  clear e60
  refine lv_dup G.1.1 G.1.2.1 (dcs_get dec_X11_init_0 39 rfl) rfl ?_
  obtain ⟨n63, σ62, h61, hf⟩ := cC_some hf
  refine a_A (k_IN (As := []) (rest := [.ref (ad n54), .ref (ad a0)]) lb_X2_init rfl q_285 nm_284 (C_X2_init w.2.1 (w.2.2.2.2 rfl) n54 h61 k_n54) ⟨Nat.le_of_ble_eq_true rfl, Nat.le_of_ble_eq_true rfl⟩ G w rfl rfl hl.1 (Nat.le_of_ble_eq_true rfl) (dcs_get dec_X11_init_1 0 rfl) ⟨Nat.le_of_ble_eq_true rfl, Nat.le_of_ble_eq_true rfl⟩) G w (fun H locs ad1 e64 w => ?_)
  rw [← e64.2 a0 k_a0.1] at hl
  rw [← e64.2 n54 k_n54.1]
  rw [← e64.2 a0 k_a0.1]
  have k_a0 := And.intro (Nat.lt_of_lt_of_le k_a0.1 e64.1) k_a0.2
  have k_n54 := And.intro (Nat.lt_of_lt_of_le k_n54.1 e64.1) k_n54.2
  generalize ad1 = ad at hl w ⊢
  clear e64
  obtain ⟨σ65, e_σ65, hf⟩ := cL_some hf
  refine r_putrF (k := 7) cls11 ctf11 fi_11_7.1 fi_11_7.2 rfl rfl (ctf11.1 7 fi_11_7.1) q_398 (fun _ => rfl) (fun _ => rfl) hm.2.2 (G.gx w) w.1 k_a0.1 k_a0.2 (dcs_get dec_X11_init_1 1 rfl) (fun H locs w1 => ?_)
  have w := Wa_uP e_σ65 k_n54.1 w w1
  refine lv_aload_n G.1.1 G.1.2.1 (dcs_get dec_X11_init_1 2 rfl) rfl (lv_at hl 0 rfl) ?_
  refine lv_iconst (v := (3 : Int32)) G.1.1 G.1.2.1 (dcs_get dec_X11_init_1 3 rfl) (by decide) ?_
  obtain ⟨h66, hf⟩ := cG_some hf
  obtain ⟨σ67, e_σ67, hf⟩ := cL_some hf
  obtain ⟨n68, e_n68, hf⟩ := cL_some hf
  refine r_newQ (N := 3) ⟨by decide, by decide⟩ q_227 (Nat.le_of_ble_eq_true rfl) G w h66 ⟨Nat.le_of_ble_eq_true rfl, Nat.le_of_ble_eq_true rfl⟩ (dcs_get dec_X11_init_1 4 rfl) (fun H ad1 e69 w => ?_)
  rw [← e69 a0 k_a0.1] at hl
  rw [← e69 a0 k_a0.1]
  have k_a0 := And.intro (Nat.lt_of_lt_of_le k_a0.1 (by omega : n63 ≤ n68)) k_a0.2
  have k_n63 : n63 < n68 ∧ (kC n63).1 = 105 := ⟨by omega, by rw [eq_of_beq h66]⟩
  have w := Wa_nm e_n68 e_σ67 w
  generalize ad1 = ad at hl w ⊢
  clear e69
  obtain ⟨σ70, e_σ70, hf⟩ := cL_some hf
  refine r_putrF (k := 8) cls11 ctf11 fi_11_8.1 fi_11_8.2 rfl rfl (ctf11.1 8 fi_11_8.1) q_399 (fun _ => rfl) (fun _ => rfl) hm.2.2 (G.gx w) w.1 k_a0.1 k_a0.2 (dcs_get dec_X11_init_1 5 rfl) (fun H locs w1 => ?_)
  have w := Wa_uP e_σ70 k_n63.1 w w1
  refine lv_aload_n G.1.1 G.1.2.1 (dcs_get dec_X11_init_1 6 rfl) rfl (lv_at hl 0 rfl) ?_
  refine lv_iconst (v := (0 : Int32)) G.1.1 G.1.2.1 (dcs_get dec_X11_init_1 7 rfl) (by decide) ?_
  obtain ⟨σ71, e_σ71, hf⟩ := cL_some hf
  refine r_puti (k := 9) cls11 ct11 fi_11_9.1 fi_11_9.2 fp_11_9.1 fp_11_9.2 q_400 rfl rfl (G.gx w) w.1 k_a0.1 k_a0.2 (dcs_get dec_X11_init_1 8 rfl) (fun H locs w1 => ?_)
  have w := Wa_uI e_σ71 w w1
  refine lv_aload_n G.1.1 G.1.2.1 (dcs_get dec_X11_init_1 9 rfl) rfl (lv_at hl 0 rfl) ?_
  obtain ⟨h72, hf⟩ := cG_some hf
  obtain ⟨σ73, e_σ73, hf⟩ := cL_some hf
  obtain ⟨n74, e_n74, hf⟩ := cL_some hf
  refine r_new cls9 ctf9 okt9 q_302 q_303 q_10 G w h72 ⟨Nat.le_of_ble_eq_true rfl, Nat.le_of_ble_eq_true rfl⟩ (dcs_get dec_X11_init_1 10 rfl) (fun H ad1 e75 w => ?_)
  rw [← e75 a0 k_a0.1] at hl
  rw [← e75 a0 k_a0.1]
  have k_a0 := And.intro (Nat.lt_of_lt_of_le k_a0.1 (by omega : n68 ≤ n74)) k_a0.2
  have k_n68 : n68 < n74 ∧ (kC n68).1 = 9 := ⟨by omega, by rw [eq_of_beq h72]⟩
  have w := Wa_nm e_n74 e_σ73 w
  generalize ad1 = ad at hl w ⊢
  clear e75
  refine lv_dup G.1.1 G.1.2.1 (dcs_get dec_X11_init_1 11 rfl) rfl ?_
  obtain ⟨n78, σ77, h76, hf⟩ := cC_some hf
  refine a_A (k_IN (As := []) (rest := [.ref (ad n68), .ref (ad a0)]) lb_X9_init rfl q_305 nm_304 (C_X9_init w.2.1 (w.2.2.2.2 rfl) n68 h76 k_n68) ⟨Nat.le_of_ble_eq_true rfl, Nat.le_of_ble_eq_true rfl⟩ G w rfl rfl hl.1 (Nat.le_of_ble_eq_true rfl) (dcs_get dec_X11_init_1 12 rfl) ⟨Nat.le_of_ble_eq_true rfl, Nat.le_of_ble_eq_true rfl⟩) G w (fun H locs ad1 e79 w => ?_)
  rw [← e79.2 a0 k_a0.1] at hl
  rw [← e79.2 a0 k_a0.1]
  rw [← e79.2 n68 k_n68.1]
  have k_a0 := And.intro (Nat.lt_of_lt_of_le k_a0.1 e79.1) k_a0.2
  have k_n68 := And.intro (Nat.lt_of_lt_of_le k_n68.1 e79.1) k_n68.2
  generalize ad1 = ad at hl w ⊢
  clear e79
  obtain ⟨σ80, e_σ80, hf⟩ := cL_some hf
  refine r_putrF (k := 10) cls11 ctf11 fi_11_10.1 fi_11_10.2 rfl rfl (ctf11.1 10 fi_11_10.1) q_401 (fun _ => rfl) (fun _ => rfl) hm.2.2 (G.gx w) w.1 k_a0.1 k_a0.2 (dcs_get dec_X11_init_1 13 rfl) (fun H locs w1 => ?_)
  have w := Wa_uP e_σ80 k_n68.1 w w1
  refine lv_aload_n G.1.1 G.1.2.1 (dcs_get dec_X11_init_1 14 rfl) rfl (lv_at hl 0 rfl) ?_
  obtain ⟨h81, hf⟩ := cG_some hf
  obtain ⟨σ82, e_σ82, hf⟩ := cL_some hf
  obtain ⟨n83, e_n83, hf⟩ := cL_some hf
  refine r_new cls3 ctf3 okt3 q_322 q_323 q_11 G w h81 ⟨Nat.le_of_ble_eq_true rfl, Nat.le_of_ble_eq_true rfl⟩ (dcs_get dec_X11_init_1 15 rfl) (fun H ad1 e84 w => ?_)
  rw [← e84 a0 k_a0.1] at hl
  rw [← e84 a0 k_a0.1]
  have k_a0 := And.intro (Nat.lt_of_lt_of_le k_a0.1 (by omega : n78 ≤ n83)) k_a0.2
  have k_n78 : n78 < n83 ∧ (kC n78).1 = 3 := ⟨by omega, by rw [eq_of_beq h81]⟩
  have w := Wa_nm e_n83 e_σ82 w
  generalize ad1 = ad at hl w ⊢
  clear e84
  refine lv_dup G.1.1 G.1.2.1 (dcs_get dec_X11_init_1 16 rfl) rfl ?_
  obtain ⟨n87, σ86, h85, hf⟩ := cC_some hf
  refine a_A (k_IN (As := []) (rest := [.ref (ad n78), .ref (ad a0)]) lb_X3_init rfl q_325 nm_324 (C_X3_init w.2.1 (w.2.2.2.2 rfl) n78 h85 k_n78) ⟨Nat.le_of_ble_eq_true rfl, Nat.le_of_ble_eq_true rfl⟩ G w rfl rfl hl.1 (Nat.le_of_ble_eq_true rfl) (dcs_get dec_X11_init_1 17 rfl) ⟨Nat.le_of_ble_eq_true rfl, Nat.le_of_ble_eq_true rfl⟩) G w (fun H locs ad1 e88 w => ?_)
  rw [← e88.2 a0 k_a0.1] at hl
  rw [← e88.2 n78 k_n78.1]
  rw [← e88.2 a0 k_a0.1]
  have k_a0 := And.intro (Nat.lt_of_lt_of_le k_a0.1 e88.1) k_a0.2
  have k_n78 := And.intro (Nat.lt_of_lt_of_le k_n78.1 e88.1) k_n78.2
  generalize ad1 = ad at hl w ⊢
  clear e88
  obtain ⟨σ89, e_σ89, hf⟩ := cL_some hf
  refine r_putrF (k := 11) cls11 ctf11 fi_11_11.1 fi_11_11.2 rfl rfl (ctf11.1 11 fi_11_11.1) q_402 (fun _ => rfl) (fun _ => rfl) hm.2.2 (G.gx w) w.1 k_a0.1 k_a0.2 (dcs_get dec_X11_init_1 18 rfl) (fun H locs w1 => ?_)
  have w := Wa_uP e_σ89 k_n78.1 w w1
  refine lv_aload_n G.1.1 G.1.2.1 (dcs_get dec_X11_init_1 19 rfl) rfl (lv_at hl 0 rfl) ?_
  obtain ⟨h90, hf⟩ := cG_some hf
  obtain ⟨σ91, e_σ91, hf⟩ := cL_some hf
  obtain ⟨n92, e_n92, hf⟩ := cL_some hf
  refine r_new cls1 ctf1 okt1 q_342 q_343 q_12 G w h90 ⟨Nat.le_of_ble_eq_true rfl, Nat.le_of_ble_eq_true rfl⟩ (dcs_get dec_X11_init_1 20 rfl) (fun H ad1 e93 w => ?_)
  rw [← e93 a0 k_a0.1] at hl
  rw [← e93 a0 k_a0.1]
  have k_a0 := And.intro (Nat.lt_of_lt_of_le k_a0.1 (by omega : n87 ≤ n92)) k_a0.2
  have k_n87 : n87 < n92 ∧ (kC n87).1 = 1 := ⟨by omega, by rw [eq_of_beq h90]⟩
  have w := Wa_nm e_n92 e_σ91 w
  generalize ad1 = ad at hl w ⊢
  clear e93
  refine lv_dup G.1.1 G.1.2.1 (dcs_get dec_X11_init_1 21 rfl) rfl ?_
  obtain ⟨n96, σ95, h94, hf⟩ := cC_some hf
  refine a_A (k_IN (As := []) (rest := [.ref (ad n87), .ref (ad a0)]) lb_X1_init rfl q_345 nm_344 (C_X1_init w.2.1 (w.2.2.2.2 rfl) n87 h94 k_n87) ⟨Nat.le_of_ble_eq_true rfl, Nat.le_of_ble_eq_true rfl⟩ G w rfl rfl hl.1 (Nat.le_of_ble_eq_true rfl) (dcs_get dec_X11_init_1 22 rfl) ⟨Nat.le_of_ble_eq_true rfl, Nat.le_of_ble_eq_true rfl⟩) G w (fun H locs ad1 e97 w => ?_)
  rw [← e97.2 a0 k_a0.1] at hl
  rw [← e97.2 a0 k_a0.1]
  rw [← e97.2 n87 k_n87.1]
  have k_a0 := And.intro (Nat.lt_of_lt_of_le k_a0.1 e97.1) k_a0.2
  have k_n87 := And.intro (Nat.lt_of_lt_of_le k_n87.1 e97.1) k_n87.2
  generalize ad1 = ad at hl w ⊢
  clear e97
  obtain ⟨σ98, e_σ98, hf⟩ := cL_some hf
  refine r_putrF (k := 12) cls11 ctf11 fi_11_12.1 fi_11_12.2 rfl rfl (ctf11.1 12 fi_11_12.1) q_403 (fun _ => rfl) (fun _ => rfl) hm.2.2 (G.gx w) w.1 k_a0.1 k_a0.2 (dcs_get dec_X11_init_1 23 rfl) (fun H locs w1 => ?_)
  have w := Wa_uP e_σ98 k_n87.1 w w1
  refine lv_iconst (v := (0 : Int32)) G.1.1 G.1.2.1 (dcs_get dec_X11_init_1 24 rfl) (by decide) ?_
  refine lv_istore_n (lv' := [(1, .int (0 : Int32)), (0, .ref (ad a0))]) G.1.1 G.1.2.1 (dcs_get dec_X11_init_1 25 rfl) rfl hl (by decide) rfl (fun ls hl => ?_)
  refine lv_iload_n G.1.1 G.1.2.1 (dcs_get dec_X11_init_1 26 rfl) rfl (lv_at hl 0 rfl) ?_
  refine lv_iconst (v := (3 : Int32)) G.1.1 G.1.2.1 (dcs_get dec_X11_init_1 27 rfl) (by decide) ?_
  refine lv_icmp_ge (tgt := 162) G.1.1 G.1.2.1 (dcs_get dec_X11_init_1 28 rfl) (by decide) (fun hc => absurd hc (by decide)) (fun _ => ?_)
  refine lv_aload_n G.1.1 G.1.2.1 (dcs_get dec_X11_init_1 29 rfl) rfl (lv_at hl 1 rfl) ?_
  obtain ⟨z99, e_z99, ok_z99, hf⟩ := cR_some hf
  have k_z99 := okr_in ok_z99
  refine r_getr (k := 8) cls11 fi_11_8.1 fi_11_8.2 q_399 (G.gx w) w.1 k_a0.1 k_a0.2 e_z99 (dcs_get dec_X11_init_1 30 rfl) ?_
  refine lv_iload_n G.1.1 G.1.2.1 (dcs_get dec_X11_init_1 31 rfl) rfl (lv_at hl 0 rfl) ?_
  obtain ⟨h100, hf⟩ := cG_some hf
  obtain ⟨σ101, e_σ101, hf⟩ := cL_some hf
  obtain ⟨n102, e_n102, hf⟩ := cL_some hf
  refine r_new cls10 ctf10 okt10 q_227 q_228 q_8 G w h100 ⟨Nat.le_of_ble_eq_true rfl, Nat.le_of_ble_eq_true rfl⟩ (dcs_get dec_X11_init_1 32 rfl) (fun H ad1 e103 w => ?_)
  rw [← e103 a0 k_a0.1] at hl
  rw [← e103 z99 k_z99.1]
  have k_a0 := And.intro (Nat.lt_of_lt_of_le k_a0.1 (by omega : n96 ≤ n102)) k_a0.2
  have k_z99 := And.intro (Nat.lt_of_lt_of_le k_z99.1 (by omega : n96 ≤ n102)) k_z99.2
  have k_n96 : n96 < n102 ∧ (kC n96).1 = 10 := ⟨by omega, by rw [eq_of_beq h100]⟩
  have w := Wa_nm e_n102 e_σ101 w
  generalize ad1 = ad at hl w ⊢
  clear e103
  refine lv_dup G.1.1 G.1.2.1 (dcs_get dec_X11_init_1 33 rfl) rfl ?_
  obtain ⟨n106, σ105, h104, hf⟩ := cC_some hf
  refine a_A (k_IN (As := []) (rest := [.ref (ad n96), .int (0 : Int32), .ref (ad z99)]) lb_X10_init rfl q_230 nm_229 (C_X10_init w.2.1 (w.2.2.2.2 rfl) n96 h104 k_n96) ⟨Nat.le_of_ble_eq_true rfl, Nat.le_of_ble_eq_true rfl⟩ G w rfl rfl hl.1 (Nat.le_of_ble_eq_true rfl) (dcs_get dec_X11_init_1 34 rfl) ⟨Nat.le_of_ble_eq_true rfl, Nat.le_of_ble_eq_true rfl⟩) G w (fun H locs ad1 e107 w => ?_)
  rw [← e107.2 a0 k_a0.1] at hl
  rw [← e107.2 z99 k_z99.1]
  rw [← e107.2 n96 k_n96.1]
  have k_a0 := And.intro (Nat.lt_of_lt_of_le k_a0.1 e107.1) k_a0.2
  have k_z99 := And.intro (Nat.lt_of_lt_of_le k_z99.1 e107.1) k_z99.2
  have k_n96 := And.intro (Nat.lt_of_lt_of_le k_n96.1 e107.1) k_n96.2
  generalize ad1 = ad at hl w ⊢
  clear e107
  obtain ⟨h108, hf⟩ := cG_some hf
  obtain ⟨σ109, e_σ109, hf⟩ := cL_some hf
  refine r_aast cls10 rfl (G.gx w) w.1 k_z99.1 k_z99.2 k_n96.1 k_n96.2 h108 (dcs_get dec_X11_init_1 35 rfl) (fun H locs w1 => ?_)
  have w := Wa_uP e_σ109 k_n96.1 w w1
  refine lv_iinc (v := (1 : Int32)) (lv' := [(1, .int (1 : Int32)), (0, .ref (ad a0))]) G.1.1 G.1.2.1 (dcs_get dec_X11_init_1 36 rfl) hl (k := 0) rfl (by decide) (by decide) rfl (fun ls hl => ?_)
  refine lv_goto (tgt := 138) G.1.1 G.1.2.1 (dcs_get dec_X11_init_1 37 rfl) (by decide) ?_
  refine lv_iload_n G.1.1 G.1.2.1 (dcs_get dec_X11_init_1 26 rfl) rfl (lv_at hl 0 rfl) ?_
  refine lv_iconst (v := (3 : Int32)) G.1.1 G.1.2.1 (dcs_get dec_X11_init_1 27 rfl) (by decide) ?_
  refine lv_icmp_ge (tgt := 162) G.1.1 G.1.2.1 (dcs_get dec_X11_init_1 28 rfl) (by decide) (fun hc => absurd hc (by decide)) (fun _ => ?_)
  refine lv_aload_n G.1.1 G.1.2.1 (dcs_get dec_X11_init_1 29 rfl) rfl (lv_at hl 1 rfl) ?_
  obtain ⟨z110, e_z110, ok_z110, hf⟩ := cR_some hf
  have k_z110 := okr_in ok_z110
  refine r_getr (k := 8) cls11 fi_11_8.1 fi_11_8.2 q_399 (G.gx w) w.1 k_a0.1 k_a0.2 e_z110 (dcs_get dec_X11_init_1 30 rfl) ?_
  refine lv_iload_n G.1.1 G.1.2.1 (dcs_get dec_X11_init_1 31 rfl) rfl (lv_at hl 0 rfl) ?_
  obtain ⟨h111, hf⟩ := cG_some hf
  obtain ⟨σ112, e_σ112, hf⟩ := cL_some hf
  obtain ⟨n113, e_n113, hf⟩ := cL_some hf
  refine r_new cls10 ctf10 okt10 q_227 q_228 q_8 G w h111 ⟨Nat.le_of_ble_eq_true rfl, Nat.le_of_ble_eq_true rfl⟩ (dcs_get dec_X11_init_1 32 rfl) (fun H ad1 e114 w => ?_)
  rw [← e114 a0 k_a0.1] at hl
  rw [← e114 z110 k_z110.1]
  have k_a0 := And.intro (Nat.lt_of_lt_of_le k_a0.1 (by omega : n106 ≤ n113)) k_a0.2
  have k_z110 := And.intro (Nat.lt_of_lt_of_le k_z110.1 (by omega : n106 ≤ n113)) k_z110.2
  have k_n106 : n106 < n113 ∧ (kC n106).1 = 10 := ⟨by omega, by rw [eq_of_beq h111]⟩
  have w := Wa_nm e_n113 e_σ112 w
  generalize ad1 = ad at hl w ⊢
  clear e114
  refine lv_dup G.1.1 G.1.2.1 (dcs_get dec_X11_init_1 33 rfl) rfl ?_
  obtain ⟨n117, σ116, h115, hf⟩ := cC_some hf
  refine a_A (k_IN (As := []) (rest := [.ref (ad n106), .int (1 : Int32), .ref (ad z110)]) lb_X10_init rfl q_230 nm_229 (C_X10_init w.2.1 (w.2.2.2.2 rfl) n106 h115 k_n106) ⟨Nat.le_of_ble_eq_true rfl, Nat.le_of_ble_eq_true rfl⟩ G w rfl rfl hl.1 (Nat.le_of_ble_eq_true rfl) (dcs_get dec_X11_init_1 34 rfl) ⟨Nat.le_of_ble_eq_true rfl, Nat.le_of_ble_eq_true rfl⟩) G w (fun H locs ad1 e118 w => ?_)
  rw [← e118.2 a0 k_a0.1] at hl
  rw [← e118.2 z110 k_z110.1]
  rw [← e118.2 n106 k_n106.1]
  have k_a0 := And.intro (Nat.lt_of_lt_of_le k_a0.1 e118.1) k_a0.2
  have k_z110 := And.intro (Nat.lt_of_lt_of_le k_z110.1 e118.1) k_z110.2
  have k_n106 := And.intro (Nat.lt_of_lt_of_le k_n106.1 e118.1) k_n106.2
  generalize ad1 = ad at hl w ⊢
  clear e118
  obtain ⟨h119, hf⟩ := cG_some hf
  obtain ⟨σ120, e_σ120, hf⟩ := cL_some hf
  refine r_aast cls10 rfl (G.gx w) w.1 k_z110.1 k_z110.2 k_n106.1 k_n106.2 h119 (dcs_get dec_X11_init_1 35 rfl) (fun H locs w1 => ?_)
  have w := Wa_uP e_σ120 k_n106.1 w w1
  refine lv_iinc (v := (2 : Int32)) (lv' := [(1, .int (2 : Int32)), (0, .ref (ad a0))]) G.1.1 G.1.2.1 (dcs_get dec_X11_init_1 36 rfl) hl (k := 0) rfl (by decide) (by decide) rfl (fun ls hl => ?_)
  refine lv_goto (tgt := 138) G.1.1 G.1.2.1 (dcs_get dec_X11_init_1 37 rfl) (by decide) ?_
  refine lv_iload_n G.1.1 G.1.2.1 (dcs_get dec_X11_init_1 26 rfl) rfl (lv_at hl 0 rfl) ?_
  refine lv_iconst (v := (3 : Int32)) G.1.1 G.1.2.1 (dcs_get dec_X11_init_1 27 rfl) (by decide) ?_
  refine lv_icmp_ge (tgt := 162) G.1.1 G.1.2.1 (dcs_get dec_X11_init_1 28 rfl) (by decide) (fun hc => absurd hc (by decide)) (fun _ => ?_)
  refine lv_aload_n G.1.1 G.1.2.1 (dcs_get dec_X11_init_1 29 rfl) rfl (lv_at hl 1 rfl) ?_
  obtain ⟨z121, e_z121, ok_z121, hf⟩ := cR_some hf
  have k_z121 := okr_in ok_z121
  refine r_getr (k := 8) cls11 fi_11_8.1 fi_11_8.2 q_399 (G.gx w) w.1 k_a0.1 k_a0.2 e_z121 (dcs_get dec_X11_init_1 30 rfl) ?_
  refine lv_iload_n G.1.1 G.1.2.1 (dcs_get dec_X11_init_1 31 rfl) rfl (lv_at hl 0 rfl) ?_
  obtain ⟨h122, hf⟩ := cG_some hf
  obtain ⟨σ123, e_σ123, hf⟩ := cL_some hf
  obtain ⟨n124, e_n124, hf⟩ := cL_some hf
  refine r_new cls10 ctf10 okt10 q_227 q_228 q_8 G w h122 ⟨Nat.le_of_ble_eq_true rfl, Nat.le_of_ble_eq_true rfl⟩ (dcs_get dec_X11_init_1 32 rfl) (fun H ad1 e125 w => ?_)
  rw [← e125 a0 k_a0.1] at hl
  rw [← e125 z121 k_z121.1]
  have k_a0 := And.intro (Nat.lt_of_lt_of_le k_a0.1 (by omega : n117 ≤ n124)) k_a0.2
  have k_z121 := And.intro (Nat.lt_of_lt_of_le k_z121.1 (by omega : n117 ≤ n124)) k_z121.2
  have k_n117 : n117 < n124 ∧ (kC n117).1 = 10 := ⟨by omega, by rw [eq_of_beq h122]⟩
  have w := Wa_nm e_n124 e_σ123 w
  generalize ad1 = ad at hl w ⊢
  clear e125
  refine lv_dup G.1.1 G.1.2.1 (dcs_get dec_X11_init_1 33 rfl) rfl ?_
  obtain ⟨n128, σ127, h126, hf⟩ := cC_some hf
  refine a_A (k_IN (As := []) (rest := [.ref (ad n117), .int (2 : Int32), .ref (ad z121)]) lb_X10_init rfl q_230 nm_229 (C_X10_init w.2.1 (w.2.2.2.2 rfl) n117 h126 k_n117) ⟨Nat.le_of_ble_eq_true rfl, Nat.le_of_ble_eq_true rfl⟩ G w rfl rfl hl.1 (Nat.le_of_ble_eq_true rfl) (dcs_get dec_X11_init_1 34 rfl) ⟨Nat.le_of_ble_eq_true rfl, Nat.le_of_ble_eq_true rfl⟩) G w (fun H locs ad1 e129 w => ?_)
  rw [← e129.2 a0 k_a0.1] at hl
  rw [← e129.2 n117 k_n117.1]
  rw [← e129.2 z121 k_z121.1]
  have k_a0 := And.intro (Nat.lt_of_lt_of_le k_a0.1 e129.1) k_a0.2
  have k_z121 := And.intro (Nat.lt_of_lt_of_le k_z121.1 e129.1) k_z121.2
  have k_n117 := And.intro (Nat.lt_of_lt_of_le k_n117.1 e129.1) k_n117.2
  generalize ad1 = ad at hl w ⊢
  clear e129
  obtain ⟨h130, hf⟩ := cG_some hf
  obtain ⟨σ131, e_σ131, hf⟩ := cL_some hf
  refine r_aast cls10 rfl (G.gx w) w.1 k_z121.1 k_z121.2 k_n117.1 k_n117.2 h130 (dcs_get dec_X11_init_1 35 rfl) (fun H locs w1 => ?_)
  have w := Wa_uP e_σ131 k_n117.1 w w1
  refine lv_iinc (v := (3 : Int32)) (lv' := [(1, .int (3 : Int32)), (0, .ref (ad a0))]) G.1.1 G.1.2.1 (dcs_get dec_X11_init_1 36 rfl) hl (k := 0) rfl (by decide) (by decide) rfl (fun ls hl => ?_)
  refine lv_goto (tgt := 138) G.1.1 G.1.2.1 (dcs_get dec_X11_init_1 37 rfl) (by decide) ?_
  refine lv_iload_n G.1.1 G.1.2.1 (dcs_get dec_X11_init_1 26 rfl) rfl (lv_at hl 0 rfl) ?_
  refine lv_iconst (v := (3 : Int32)) G.1.1 G.1.2.1 (dcs_get dec_X11_init_1 27 rfl) (by decide) ?_
  refine lv_icmp_ge (tgt := 162) G.1.1 G.1.2.1 (dcs_get dec_X11_init_1 28 rfl) (by decide) (fun _ => ?_) (fun hc => absurd (by decide) hc)
  refine lv_aload_n G.1.1 G.1.2.1 (dcs_get dec_X11_init_1 38 rfl) rfl (lv_at hl 1 rfl) ?_
  obtain ⟨z132, e_z132, ok_z132, hf⟩ := cR_some hf
  have k_z132 := okr_in ok_z132
  refine r_getr (k := 1) cls11 fi_11_1.1 fi_11_1.2 q_392 (G.gx w) w.1 k_a0.1 k_a0.2 e_z132 (dcs_get dec_X11_init_1 39 rfl) ?_
  obtain ⟨h133, hf⟩ := cG_some hf
  have h133 := eq_of_beq h133
  rw [h133] at w
  rw [h133] at k_a0
  rw [h133] at k_z121
  rw [h133] at k_n117
  rw [h133] at k_z132
  obtain ⟨σ135, h134, hf⟩ := cB_some hf
  refine a_v (k_VN (As := []) (rest := []) cls7 lb_X7_clear lv_X7_clear nm_365 (C_X7_clear w.2.1 z132 σ131 h134 (okr_of k_z132)) ⟨Nat.le_of_ble_eq_true rfl, Nat.le_of_ble_eq_true rfl⟩ (G.gx w) w.1 k_z132.1 k_z132.2 rfl rfl hl.1 (Nat.le_of_ble_eq_true rfl) (dcs_get dec_X11_init_2 0 rfl) ⟨Nat.le_of_ble_eq_true rfl, Nat.le_of_ble_eq_true rfl⟩) (G.gx w) w.1 (fun H locs w1 => ?_)
  have w := Wa_lax w w1
  refine lv_aload_n G.1.1 G.1.2.1 (dcs_get dec_X11_init_2 1 rfl) rfl (lv_at hl 1 rfl) ?_
  obtain ⟨z136, e_z136, ok_z136, hf⟩ := cR_some hf
  have k_z136 := okr_in ok_z136
  refine r_getr (k := 5) cls11 fi_11_5.1 fi_11_5.2 q_396 (G.gx w) w.1 k_a0.1 k_a0.2 e_z136 (dcs_get dec_X11_init_2 2 rfl) ?_
  refine lv_aload_n G.1.1 G.1.2.1 (dcs_get dec_X11_init_2 3 rfl) rfl (lv_at hl 1 rfl) ?_
  obtain ⟨z137, e_z137, ok_z137, hf⟩ := cR_some hf
  have k_z137 := okr_in ok_z137
  refine r_getr (k := 1) cls11 fi_11_1.1 fi_11_1.2 q_392 (G.gx w) w.1 k_a0.1 k_a0.2 e_z137 (dcs_get dec_X11_init_2 4 rfl) ?_
  obtain ⟨σ139, h138, hf⟩ := cB_some hf
  refine a_v (k_VN (As := [.ref (ad z137)]) (rest := []) cls10 lb_X10_begin lv_X10_begin nm_380 (C_X10_begin w.2.1 z136 z137 σ135 h138 (okr_of k_z136) (okr_of k_z137)) ⟨Nat.le_of_ble_eq_true rfl, Nat.le_of_ble_eq_true rfl⟩ (G.gx w) w.1 k_z136.1 k_z136.2 rfl rfl hl.1 (Nat.le_of_ble_eq_true rfl) (dcs_get dec_X11_init_2 5 rfl) ⟨Nat.le_of_ble_eq_true rfl, Nat.le_of_ble_eq_true rfl⟩) (G.gx w) w.1 (fun H locs w1 => ?_)
  have w := Wa_lax w w1
  have e9 := Option.some.inj hf
  refine W.widen (k := 245) (n := 11298) (Nat.le_of_ble_eq_true rfl) (Nat.le_of_ble_eq_true rfl) ?_
  exact r_vretA hsz G w hm (fun h => by cases h) (congrArg Prod.fst e9) (congrArg Prod.snd e9) (dcs_get dec_X11_init_2 6 rfl)
end
set_option maxRecDepth 100000 in
set_option maxHeartbeats 16000000 in
theorem C_X11_init {l : Launch} {D : va_G} {ay : Nat → ClassId} {ad : Nat → Nat} {n n' sz : Nat} {σ σ' : hSt} (hi : hInj n ad) (hR : RO n σ) (a0 : Nat) (hf : F_X11_init a0 n σ = some (n', σ')) (k_a0 : a0 < n ∧ (kC a0).1 = 11) : hMA l D ay kC n ad sz yX11_init cX11_init 2 (rmA 3 66 245 11298) [.ref (ad a0)] σ false n' σ' 245 11298 := by
  refine hMA_in (by decide) rfl hi hR (Nat.le_of_ble_eq_true rfl) ?_
  intro p e s m below meth c hsz G hm w ls hl
  exact B_X11_init a0 n σ hsz G hm hf k_a0 w hl

/-! HillDrumsModel.<init> -/
def DL_X12_init_0 : List (Nat × Instr × Nat) := [(0, .aload_n 0, 1), (1, .invokespecial 7, 3), (4, .aload_n 0, 1), (5, .sipush 2000, 3), (8, .newarray .byte, 2), (10, .putfield 13, 3), (13, .aload_n 0, 1), (14, .sipush 2000, 3), (17, .newarray .byte, 2), (19, .putfield 17, 3), (22, .aload_n 0, 1), (23, .sipush 403, 3), (26, .newarray .int, 2), (28, .putfield 20, 3), (31, .aload_n 0, 1), (32, .sipush 403, 3), (35, .newarray .int, 2), (37, .putfield 24, 3), (40, .aload_n 0, 1), (41, .sipush 403, 3), (44, .newarray .int, 2), (46, .putfield 27, 3), (49, .aload_n 0, 1), (50, .sipush 403, 3), (53, .newarray .long, 2), (55, .putfield 30, 3), (58, .aload_n 0, 1), (59, .bipush 19, 2), (61, .newarray .long, 2), (63, .putfield 34, 3), (66, .aload_n 0, 1), (67, .iconst (-1), 1), (68, .putfield 37, 3), (71, .aload_n 0, 1), (72, .bipush 10, 2), (74, .newarray .long, 2), (76, .putfield 40, 3), (79, .aload_n 0, 1), (80, .bipush 10, 2), (82, .newarray .int, 2)]
set_option maxRecDepth 100000 in
theorem dec_X12_init_0 : dcs cX12_init DL_X12_init_0 = true := by decide +kernel
def DL_X12_init_1 : List (Nat × Instr × Nat) := [(84, .putfield 43, 3), (87, .aload_n 0, 1), (88, .bipush 10, 2), (90, .newarray .int, 2), (92, .putfield 46, 3), (95, .aload_n 0, 1), (96, .iconst 2, 1), (97, .newarray .int, 2), (99, .putfield 49, 3), (102, .aload_n 0, 1), (103, .bipush 12, 2), (105, .newarray .int, 2), (107, .putfield 52, 3), (110, .aload_n 0, 1), (111, .bipush 12, 2), (113, .newarray .int, 2), (115, .putfield 55, 3), (118, .aload_n 0, 1), (119, .iconst 2, 1), (120, .newarray .int, 2), (122, .putfield 58, 3), (125, .aload_n 0, 1), (126, .bipush 8, 2), (128, .newarray .int, 2), (130, .putfield 61, 3), (133, .aload_n 0, 1), (134, .iconst 4, 1), (135, .newarray .int, 2), (137, .putfield 64, 3), (140, .aload_n 0, 1), (141, .bipush 48, 2), (143, .newarray .int, 2), (145, .putfield 67, 3), (148, .aload_n 0, 1), (149, .iconst 2, 1), (150, .newarray .int, 2), (152, .putfield 70, 3), (155, .aload_n 0, 1), (156, .iconst 2, 1), (157, .newarray .int, 2)]
set_option maxRecDepth 100000 in
theorem dec_X12_init_1 : dcs cX12_init DL_X12_init_1 = true := by decide +kernel
def DL_X12_init_2 : List (Nat × Instr × Nat) := [(159, .putfield 73, 3), (162, .aload_n 0, 1), (163, .bipush 8, 2), (165, .newarray .int, 2), (167, .putfield 76, 3), (170, .aload_n 0, 1), (171, .bipush 8, 2), (173, .newarray .int, 2), (175, .putfield 79, 3), (178, .aload_n 0, 1), (179, .bipush 8, 2), (181, .newarray .int, 2), (183, .putfield 82, 3), (186, .aload_n 0, 1), (187, .iconst 2, 1), (188, .newarray .int, 2), (190, .putfield 85, 3), (193, .aload_n 0, 1), (194, .iconst 2, 1), (195, .newarray .int, 2), (197, .putfield 88, 3), (200, .aload_n 0, 1), (201, .sipush 260, 3), (204, .newarray .boolean, 2), (206, .putfield 91, 3), (209, .aload_n 0, 1), (210, .sipush 260, 3), (213, .newarray .int, 2), (215, .putfield 95, 3), (218, .aload_n 0, 1), (219, .sipush 260, 3), (222, .newarray .int, 2), (224, .putfield 98, 3), (227, .aload_n 0, 1), (228, .sipush 260, 3), (231, .newarray .int, 2), (233, .putfield 101, 3), (236, .aload_n 0, 1), (237, .sipush 260, 3), (240, .newarray .int, 2)]
set_option maxRecDepth 100000 in
theorem dec_X12_init_2 : dcs cX12_init DL_X12_init_2 = true := by decide +kernel
def DL_X12_init_3 : List (Nat × Instr × Nat) := [(242, .putfield 104, 3), (245, .aload_n 0, 1), (246, .sipush 840, 3), (249, .newarray .int, 2), (251, .putfield 107, 3), (254, .aload_n 0, 1), (255, .sipush 840, 3), (258, .newarray .int, 2), (260, .putfield 110, 3), (263, .aload_n 0, 1), (264, .bipush 64, 2), (266, .newarray .int, 2), (268, .putfield 113, 3), (271, .aload_n 0, 1), (272, .bipush 6, 2), (274, .newarray .int, 2), (276, .putfield 116, 3), (279, .aload_n 0, 1), (280, .sipush 400, 3), (283, .newarray .int, 2), (285, .putfield 119, 3), (288, .aload_n 0, 1), (289, .bipush 6, 2), (291, .newarray .int, 2), (293, .putfield 122, 3), (296, .aload_n 0, 1), (297, .sipush 380, 3), (300, .newarray .int, 2), (302, .putfield 125, 3), (305, .aload_n 0, 1), (306, .sipush 380, 3), (309, .newarray .int, 2), (311, .putfield 128, 3), (314, .aload_n 0, 1), (315, .sipush 15200, 3), (318, .newarray .int, 2), (320, .putfield 131, 3), (323, .aload_n 0, 1), (324, .bipush 64, 2), (326, .newarray .int, 2)]
set_option maxRecDepth 100000 in
theorem dec_X12_init_3 : dcs cX12_init DL_X12_init_3 = true := by decide +kernel
def DL_X12_init_4 : List (Nat × Instr × Nat) := [(328, .putfield 134, 3), (331, .aload_n 0, 1), (332, .bipush 64, 2), (334, .newarray .int, 2), (336, .putfield 137, 3), (339, .aload_n 0, 1), (340, .iconst 3, 1), (341, .newarray .int, 2), (343, .putfield 140, 3), (346, .aload_n 0, 1), (347, .bipush 20, 2), (349, .newarray .int, 2), (351, .putfield 143, 3), (354, .aload_n 0, 1), (355, .bipush 20, 2), (357, .newarray .int, 2), (359, .putfield 146, 3), (362, .aload_n 0, 1), (363, .bipush 20, 2), (365, .newarray .int, 2), (367, .putfield 149, 3), (370, .aload_n 0, 1), (371, .iconst 3, 1), (372, .newarray .boolean, 2), (374, .putfield 152, 3), (377, .aload_n 0, 1), (378, .sipush 1140, 3), (381, .newarray .int, 2), (383, .putfield 155, 3), (386, .aload_n 0, 1), (387, .getfield 70, 3), (390, .iconst 0, 1), (391, .iconst 1, 1), (392, .iastore, 1), (393, .aload_n 0, 1), (394, .getfield 34, 3), (397, .iconst 0, 1), (398, .bipush 104, 2), (400, .bipush 105, 2), (402, .bipush 108, 2)]
set_option maxRecDepth 100000 in
theorem dec_X12_init_4 : dcs cX12_init DL_X12_init_4 = true := by decide +kernel
def DL_X12_init_5 : List (Nat × Instr × Nat) := [(404, .bipush 108, 2), (406, .iconst 0, 1), (407, .iconst 0, 1), (408, .iconst 0, 1), (409, .invokestatic 158, 3), (412, .lastore, 1), (413, .aload_n 0, 1), (414, .getfield 34, 3), (417, .iconst 1, 1), (418, .bipush 110, 2), (420, .bipush 101, 2), (422, .bipush 119, 2), (424, .bipush 115, 2), (426, .iconst 0, 1), (427, .iconst 0, 1), (428, .iconst 0, 1), (429, .invokestatic 158, 3), (432, .lastore, 1), (433, .aload_n 0, 1), (434, .getfield 34, 3), (437, .iconst 2, 1), (438, .bipush 97, 2), (440, .bipush 116, 2), (442, .iconst 0, 1), (443, .iconst 0, 1), (444, .iconst 0, 1), (445, .iconst 0, 1), (446, .iconst 0, 1), (447, .invokestatic 158, 3), (450, .lastore, 1), (451, .aload_n 0, 1), (452, .getfield 34, 3), (455, .iconst 3, 1), (456, .bipush 104, 2), (458, .bipush 101, 2), (460, .bipush 97, 2), (462, .bipush 114, 2), (464, .bipush 115, 2), (466, .iconst 0, 1), (467, .iconst 0, 1)]
set_option maxRecDepth 100000 in
theorem dec_X12_init_5 : dcs cX12_init DL_X12_init_5 = true := by decide +kernel
def DL_X12_init_6 : List (Nat × Instr × Nat) := [(468, .invokestatic 158, 3), (471, .lastore, 1), (472, .aload_n 0, 1), (473, .getfield 34, 3), (476, .iconst 4, 1), (477, .bipush 119, 2), (479, .bipush 105, 2), (481, .bipush 110, 2), (483, .bipush 100, 2), (485, .iconst 0, 1), (486, .iconst 0, 1), (487, .iconst 0, 1), (488, .invokestatic 158, 3), (491, .lastore, 1), (492, .aload_n 0, 1), (493, .getfield 34, 3), (496, .iconst 5, 1), (497, .bipush 102, 2), (499, .bipush 111, 2), (501, .bipush 103, 2), (503, .iconst 0, 1), (504, .iconst 0, 1), (505, .iconst 0, 1), (506, .iconst 0, 1), (507, .invokestatic 158, 3), (510, .lastore, 1), (511, .aload_n 0, 1), (512, .getfield 34, 3), (515, .bipush 6, 2), (517, .bipush 111, 2), (519, .bipush 114, 2), (521, .bipush 100, 2), (523, .bipush 101, 2), (525, .bipush 114, 2), (527, .iconst 0, 1), (528, .iconst 0, 1), (529, .invokestatic 158, 3), (532, .lastore, 1), (533, .aload_n 0, 1), (534, .getfield 34, 3)]
set_option maxRecDepth 100000 in
theorem dec_X12_init_6 : dcs cX12_init DL_X12_init_6 = true := by decide +kernel
def DL_X12_init_7 : List (Nat × Instr × Nat) := [(537, .bipush 7, 2), (539, .bipush 102, 2), (541, .bipush 114, 2), (543, .bipush 101, 2), (545, .bipush 101, 2), (547, .iconst 0, 1), (548, .iconst 0, 1), (549, .iconst 0, 1), (550, .invokestatic 158, 3), (553, .lastore, 1), (554, .aload_n 0, 1), (555, .getfield 34, 3), (558, .bipush 8, 2), (560, .bipush 116, 2), (562, .bipush 111, 2), (564, .bipush 112, 2), (566, .bipush 105, 2), (568, .bipush 99, 2), (570, .iconst 0, 1), (571, .iconst 0, 1), (572, .invokestatic 158, 3), (575, .lastore, 1), (576, .aload_n 0, 1), (577, .getfield 34, 3), (580, .bipush 9, 2), (582, .bipush 97, 2), (584, .bipush 110, 2), (586, .bipush 121, 2), (588, .iconst 0, 1), (589, .iconst 0, 1), (590, .iconst 0, 1), (591, .iconst 0, 1), (592, .invokestatic 158, 3), (595, .lastore, 1), (596, .aload_n 0, 1), (597, .getfield 34, 3), (600, .bipush 10, 2), (602, .bipush 111, 2), (604, .bipush 116, 2), (606, .bipush 104, 2)]
set_option maxRecDepth 100000 in
theorem dec_X12_init_7 : dcs cX12_init DL_X12_init_7 = true := by decide +kernel
def DL_X12_init_8 : List (Nat × Instr × Nat) := [(608, .bipush 101, 2), (610, .bipush 114, 2), (612, .iconst 0, 1), (613, .iconst 0, 1), (614, .invokestatic 158, 3), (617, .lastore, 1), (618, .aload_n 0, 1), (619, .getfield 34, 3), (622, .bipush 11, 2), (624, .bipush 115, 2), (626, .bipush 108, 2), (628, .bipush 101, 2), (630, .bipush 101, 2), (632, .bipush 112, 2), (634, .bipush 101, 2), (636, .bipush 114, 2), (638, .invokestatic 158, 3), (641, .lastore, 1), (642, .aload_n 0, 1), (643, .getfield 34, 3), (646, .bipush 12, 2), (648, .bipush 105, 2), (650, .bipush 102, 2), (652, .iconst 0, 1), (653, .iconst 0, 1), (654, .iconst 0, 1), (655, .iconst 0, 1), (656, .iconst 0, 1), (657, .invokestatic 158, 3), (660, .lastore, 1), (661, .aload_n 0, 1), (662, .getfield 34, 3), (665, .bipush 13, 2), (667, .bipush 116, 2), (669, .bipush 104, 2), (671, .bipush 101, 2), (673, .bipush 110, 2), (675, .iconst 0, 1), (676, .iconst 0, 1), (677, .iconst 0, 1)]
set_option maxRecDepth 100000 in
theorem dec_X12_init_8 : dcs cX12_init DL_X12_init_8 = true := by decide +kernel
def DL_X12_init_9 : List (Nat × Instr × Nat) := [(678, .invokestatic 158, 3), (681, .lastore, 1), (682, .aload_n 0, 1), (683, .getfield 34, 3), (686, .bipush 14, 2), (688, .bipush 101, 2), (690, .bipush 108, 2), (692, .bipush 115, 2), (694, .bipush 101, 2), (696, .iconst 0, 1), (697, .iconst 0, 1), (698, .iconst 0, 1), (699, .invokestatic 158, 3), (702, .lastore, 1), (703, .aload_n 0, 1), (704, .getfield 34, 3), (707, .bipush 15, 2), (709, .bipush 102, 2), (711, .bipush 97, 2), (713, .bipush 114, 2), (715, .iconst 0, 1), (716, .iconst 0, 1), (717, .iconst 0, 1), (718, .iconst 0, 1), (719, .invokestatic 158, 3), (722, .lastore, 1), (723, .aload_n 0, 1), (724, .getfield 34, 3), (727, .bipush 16, 2), (729, .bipush 100, 2), (731, .bipush 97, 2), (733, .bipush 121, 2), (735, .iconst 0, 1), (736, .iconst 0, 1), (737, .iconst 0, 1), (738, .iconst 0, 1), (739, .invokestatic 158, 3), (742, .lastore, 1), (743, .aload_n 0, 1), (744, .getfield 34, 3)]
set_option maxRecDepth 100000 in
theorem dec_X12_init_9 : dcs cX12_init DL_X12_init_9 = true := by decide +kernel
def DL_X12_init_10 : List (Nat × Instr × Nat) := [(747, .bipush 17, 2), (749, .bipush 102, 2), (751, .bipush 114, 2), (753, .bipush 111, 2), (755, .bipush 109, 2), (757, .iconst 0, 1), (758, .iconst 0, 1), (759, .iconst 0, 1), (760, .invokestatic 158, 3), (763, .lastore, 1), (764, .aload_n 0, 1), (765, .getfield 34, 3), (768, .bipush 18, 2), (770, .bipush 116, 2), (772, .bipush 111, 2), (774, .iconst 0, 1), (775, .iconst 0, 1), (776, .iconst 0, 1), (777, .iconst 0, 1), (778, .iconst 0, 1), (779, .invokestatic 158, 3), (782, .lastore, 1), (783, .aload_n 0, 1), (784, .invokevirtual 162, 3), (787, .aload_n 0, 1), (788, .invokevirtual 165, 3), (791, .return_, 1)]
set_option maxRecDepth 100000 in
theorem dec_X12_init_10 : dcs cX12_init DL_X12_init_10 = true := by decide +kernel
theorem lb_X12_init : lkB yX12_init cX12_init 1 (none) 0 := ⟨q_988, q_14, ⟨by decide, by decide⟩, by decide +kernel⟩
set_option maxRecDepth 100000 in
def F_X12_init (a0 : Nat) (n : Nat) (σ : hSt) : Option (Nat × hSt) :=
cG (kM n == (100, 2000)) <|
cL (zO σ n) fun σ2 =>
cL (n + 1) fun n3 =>
cL (uP σ2 a0 1 (some n)) fun σ5 =>
cG (kM n3 == (100, 2000)) <|
cL (zO σ5 n3) fun σ7 =>
cL (n3 + 1) fun n8 =>
cL (uP σ7 a0 3 (some n3)) fun σ10 =>
cG (kM n8 == (101, 403)) <|
cL (zO σ10 n8) fun σ12 =>
cL (n8 + 1) fun n13 =>
cL (uP σ12 a0 5 (some n8)) fun σ15 =>
cG (kM n13 == (101, 403)) <|
cL (zO σ15 n13) fun σ17 =>
cL (n13 + 1) fun n18 =>
cL (uP σ17 a0 6 (some n13)) fun σ20 =>
cG (kM n18 == (101, 403)) <|
cL (zO σ20 n18) fun σ22 =>
cL (n18 + 1) fun n23 =>
cL (uP σ22 a0 7 (some n18)) fun σ25 =>
cG (kM n23 == (103, 403)) <|
cL (zO σ25 n23) fun σ27 =>
cL (n23 + 1) fun n28 =>
cL (uP σ27 a0 8 (some n23)) fun σ30 =>
cG (kM n28 == (103, 19)) <|
cL (zO σ30 n28) fun σ32 =>
cL (n28 + 1) fun n33 =>
cL (uP σ32 a0 9 (some n28)) fun σ35 =>
cL (uI σ35 a0 17 (-1 : Int32)) fun σ36 =>
cG (kM n33 == (103, 10)) <|
cL (zO σ36 n33) fun σ38 =>
cL (n33 + 1) fun n39 =>
cL (uP σ38 a0 21 (some n33)) fun σ41 =>
cG (kM n39 == (101, 10)) <|
cL (zO σ41 n39) fun σ43 =>
cL (n39 + 1) fun n44 =>
cL (uP σ43 a0 22 (some n39)) fun σ46 =>
cG (kM n44 == (101, 10)) <|
cL (zO σ46 n44) fun σ48 =>
cL (n44 + 1) fun n49 =>
cL (uP σ48 a0 23 (some n44)) fun σ51 =>
cG (kM n49 == (101, 2)) <|
cL (zO σ51 n49) fun σ53 =>
cL (n49 + 1) fun n54 =>
cL (uP σ53 a0 24 (some n49)) fun σ56 =>
cG (kM n54 == (101, 12)) <|
cL (zO σ56 n54) fun σ58 =>
cL (n54 + 1) fun n59 =>
cL (uP σ58 a0 25 (some n54)) fun σ61 =>
cG (kM n59 == (101, 12)) <|
cL (zO σ61 n59) fun σ63 =>
cL (n59 + 1) fun n64 =>
cL (uP σ63 a0 26 (some n59)) fun σ66 =>
cG (kM n64 == (101, 2)) <|
cL (zO σ66 n64) fun σ68 =>
cL (n64 + 1) fun n69 =>
cL (uP σ68 a0 27 (some n64)) fun σ71 =>
cG (kM n69 == (101, 8)) <|
cL (zO σ71 n69) fun σ73 =>
cL (n69 + 1) fun n74 =>
cL (uP σ73 a0 28 (some n69)) fun σ76 =>
cG (kM n74 == (101, 4)) <|
cL (zO σ76 n74) fun σ78 =>
cL (n74 + 1) fun n79 =>
cL (uP σ78 a0 29 (some n74)) fun σ81 =>
cG (kM n79 == (101, 48)) <|
cL (zO σ81 n79) fun σ83 =>
cL (n79 + 1) fun n84 =>
cL (uP σ83 a0 30 (some n79)) fun σ86 =>
cG (kM n84 == (101, 2)) <|
cL (zO σ86 n84) fun σ88 =>
cL (n84 + 1) fun n89 =>
cL (uP σ88 a0 31 (some n84)) fun σ91 =>
cG (kM n89 == (101, 2)) <|
cL (zO σ91 n89) fun σ93 =>
cL (n89 + 1) fun n94 =>
cL (uP σ93 a0 32 (some n89)) fun σ96 =>
cG (kM n94 == (101, 8)) <|
cL (zO σ96 n94) fun σ98 =>
cL (n94 + 1) fun n99 =>
cL (uP σ98 a0 33 (some n94)) fun σ101 =>
cG (kM n99 == (101, 8)) <|
cL (zO σ101 n99) fun σ103 =>
cL (n99 + 1) fun n104 =>
cL (uP σ103 a0 34 (some n99)) fun σ106 =>
cG (kM n104 == (101, 8)) <|
cL (zO σ106 n104) fun σ108 =>
cL (n104 + 1) fun n109 =>
cL (uP σ108 a0 35 (some n104)) fun σ111 =>
cG (kM n109 == (101, 2)) <|
cL (zO σ111 n109) fun σ113 =>
cL (n109 + 1) fun n114 =>
cL (uP σ113 a0 36 (some n109)) fun σ116 =>
cG (kM n114 == (101, 2)) <|
cL (zO σ116 n114) fun σ118 =>
cL (n114 + 1) fun n119 =>
cL (uP σ118 a0 37 (some n114)) fun σ121 =>
cG (kM n119 == (102, 260)) <|
cL (zO σ121 n119) fun σ123 =>
cL (n119 + 1) fun n124 =>
cL (uP σ123 a0 39 (some n119)) fun σ126 =>
cG (kM n124 == (101, 260)) <|
cL (zO σ126 n124) fun σ128 =>
cL (n124 + 1) fun n129 =>
cL (uP σ128 a0 40 (some n124)) fun σ131 =>
cG (kM n129 == (101, 260)) <|
cL (zO σ131 n129) fun σ133 =>
cL (n129 + 1) fun n134 =>
cL (uP σ133 a0 41 (some n129)) fun σ136 =>
cG (kM n134 == (101, 260)) <|
cL (zO σ136 n134) fun σ138 =>
cL (n134 + 1) fun n139 =>
cL (uP σ138 a0 42 (some n134)) fun σ141 =>
cG (kM n139 == (101, 260)) <|
cL (zO σ141 n139) fun σ143 =>
cL (n139 + 1) fun n144 =>
cL (uP σ143 a0 43 (some n139)) fun σ146 =>
cG (kM n144 == (101, 840)) <|
cL (zO σ146 n144) fun σ148 =>
cL (n144 + 1) fun n149 =>
cL (uP σ148 a0 45 (some n144)) fun σ151 =>
cG (kM n149 == (101, 840)) <|
cL (zO σ151 n149) fun σ153 =>
cL (n149 + 1) fun n154 =>
cL (uP σ153 a0 46 (some n149)) fun σ156 =>
cG (kM n154 == (101, 64)) <|
cL (zO σ156 n154) fun σ158 =>
cL (n154 + 1) fun n159 =>
cL (uP σ158 a0 47 (some n154)) fun σ161 =>
cG (kM n159 == (101, 6)) <|
cL (zO σ161 n159) fun σ163 =>
cL (n159 + 1) fun n164 =>
cL (uP σ163 a0 49 (some n159)) fun σ166 =>
cG (kM n164 == (101, 400)) <|
cL (zO σ166 n164) fun σ168 =>
cL (n164 + 1) fun n169 =>
cL (uP σ168 a0 50 (some n164)) fun σ171 =>
cG (kM n169 == (101, 6)) <|
cL (zO σ171 n169) fun σ173 =>
cL (n169 + 1) fun n174 =>
cL (uP σ173 a0 52 (some n169)) fun σ176 =>
cG (kM n174 == (101, 380)) <|
cL (zO σ176 n174) fun σ178 =>
cL (n174 + 1) fun n179 =>
cL (uP σ178 a0 53 (some n174)) fun σ181 =>
cG (kM n179 == (101, 380)) <|
cL (zO σ181 n179) fun σ183 =>
cL (n179 + 1) fun n184 =>
cL (uP σ183 a0 54 (some n179)) fun σ186 =>
cG (kM n184 == (101, 15200)) <|
cL (zO σ186 n184) fun σ188 =>
cL (n184 + 1) fun n189 =>
cL (uP σ188 a0 58 (some n184)) fun σ191 =>
cG (kM n189 == (101, 64)) <|
cL (zO σ191 n189) fun σ193 =>
cL (n189 + 1) fun n194 =>
cL (uP σ193 a0 59 (some n189)) fun σ196 =>
cG (kM n194 == (101, 64)) <|
cL (zO σ196 n194) fun σ198 =>
cL (n194 + 1) fun n199 =>
cL (uP σ198 a0 60 (some n194)) fun σ201 =>
cG (kM n199 == (101, 3)) <|
cL (zO σ201 n199) fun σ203 =>
cL (n199 + 1) fun n204 =>
cL (uP σ203 a0 61 (some n199)) fun σ206 =>
cG (kM n204 == (101, 20)) <|
cL (zO σ206 n204) fun σ208 =>
cL (n204 + 1) fun n209 =>
cL (uP σ208 a0 64 (some n204)) fun σ211 =>
cG (kM n209 == (101, 20)) <|
cL (zO σ211 n209) fun σ213 =>
cL (n209 + 1) fun n214 =>
cL (uP σ213 a0 65 (some n209)) fun σ216 =>
cG (kM n214 == (101, 20)) <|
cL (zO σ216 n214) fun σ218 =>
cL (n214 + 1) fun n219 =>
cL (uP σ218 a0 66 (some n214)) fun σ221 =>
cG (kM n219 == (102, 3)) <|
cL (zO σ221 n219) fun σ223 =>
cL (n219 + 1) fun n224 =>
cL (uP σ223 a0 67 (some n219)) fun σ226 =>
cG (kM n224 == (101, 1140)) <|
cL (zO σ226 n224) fun σ228 =>
cL (n224 + 1) fun n229 =>
cL (uP σ228 a0 68 (some n224)) fun σ231 =>
cR (σ231.2.2 a0 31) (okr kM n229 101) fun z232 =>
cG (inb (0 : Int32) (kM z232).2) <|
cL (uI σ231 z232 (0 : Int32).toNatClampNeg (1 : Int32)) fun σ234 =>
cR (σ234.2.2 a0 9) (okr kM n229 103) fun z235 =>
cG (n229 == NM) <|
(F_X12_word (104 : Int32) (105 : Int32) (108 : Int32) (108 : Int32) (0 : Int32) (0 : Int32) (0 : Int32) σ234).bind fun v238 =>
cG (inb (0 : Int32) (kM z235).2) <|
cL (uJ σ234 z235 (0 : Int32).toNatClampNeg v238) fun σ240 =>
cR (σ240.2.2 a0 9) (okr kM NM 103) fun z241 =>
(F_X12_word (110 : Int32) (101 : Int32) (119 : Int32) (115 : Int32) (0 : Int32) (0 : Int32) (0 : Int32) σ240).bind fun v243 =>
cG (inb (1 : Int32) (kM z241).2) <|
cL (uJ σ240 z241 (1 : Int32).toNatClampNeg v243) fun σ245 =>
cR (σ245.2.2 a0 9) (okr kM NM 103) fun z246 =>
(F_X12_word (97 : Int32) (116 : Int32) (0 : Int32) (0 : Int32) (0 : Int32) (0 : Int32) (0 : Int32) σ245).bind fun v248 =>
cG (inb (2 : Int32) (kM z246).2) <|
cL (uJ σ245 z246 (2 : Int32).toNatClampNeg v248) fun σ250 =>
cR (σ250.2.2 a0 9) (okr kM NM 103) fun z251 =>
(F_X12_word (104 : Int32) (101 : Int32) (97 : Int32) (114 : Int32) (115 : Int32) (0 : Int32) (0 : Int32) σ250).bind fun v253 =>
cG (inb (3 : Int32) (kM z251).2) <|
cL (uJ σ250 z251 (3 : Int32).toNatClampNeg v253) fun σ255 =>
cR (σ255.2.2 a0 9) (okr kM NM 103) fun z256 =>
(F_X12_word (119 : Int32) (105 : Int32) (110 : Int32) (100 : Int32) (0 : Int32) (0 : Int32) (0 : Int32) σ255).bind fun v258 =>
cG (inb (4 : Int32) (kM z256).2) <|
cL (uJ σ255 z256 (4 : Int32).toNatClampNeg v258) fun σ260 =>
cR (σ260.2.2 a0 9) (okr kM NM 103) fun z261 =>
(F_X12_word (102 : Int32) (111 : Int32) (103 : Int32) (0 : Int32) (0 : Int32) (0 : Int32) (0 : Int32) σ260).bind fun v263 =>
cG (inb (5 : Int32) (kM z261).2) <|
cL (uJ σ260 z261 (5 : Int32).toNatClampNeg v263) fun σ265 =>
cR (σ265.2.2 a0 9) (okr kM NM 103) fun z266 =>
(F_X12_word (111 : Int32) (114 : Int32) (100 : Int32) (101 : Int32) (114 : Int32) (0 : Int32) (0 : Int32) σ265).bind fun v268 =>
cG (inb (6 : Int32) (kM z266).2) <|
cL (uJ σ265 z266 (6 : Int32).toNatClampNeg v268) fun σ270 =>
cR (σ270.2.2 a0 9) (okr kM NM 103) fun z271 =>
(F_X12_word (102 : Int32) (114 : Int32) (101 : Int32) (101 : Int32) (0 : Int32) (0 : Int32) (0 : Int32) σ270).bind fun v273 =>
cG (inb (7 : Int32) (kM z271).2) <|
cL (uJ σ270 z271 (7 : Int32).toNatClampNeg v273) fun σ275 =>
cR (σ275.2.2 a0 9) (okr kM NM 103) fun z276 =>
(F_X12_word (116 : Int32) (111 : Int32) (112 : Int32) (105 : Int32) (99 : Int32) (0 : Int32) (0 : Int32) σ275).bind fun v278 =>
cG (inb (8 : Int32) (kM z276).2) <|
cL (uJ σ275 z276 (8 : Int32).toNatClampNeg v278) fun σ280 =>
cR (σ280.2.2 a0 9) (okr kM NM 103) fun z281 =>
(F_X12_word (97 : Int32) (110 : Int32) (121 : Int32) (0 : Int32) (0 : Int32) (0 : Int32) (0 : Int32) σ280).bind fun v283 =>
cG (inb (9 : Int32) (kM z281).2) <|
cL (uJ σ280 z281 (9 : Int32).toNatClampNeg v283) fun σ285 =>
cR (σ285.2.2 a0 9) (okr kM NM 103) fun z286 =>
(F_X12_word (111 : Int32) (116 : Int32) (104 : Int32) (101 : Int32) (114 : Int32) (0 : Int32) (0 : Int32) σ285).bind fun v288 =>
cG (inb (10 : Int32) (kM z286).2) <|
cL (uJ σ285 z286 (10 : Int32).toNatClampNeg v288) fun σ290 =>
cR (σ290.2.2 a0 9) (okr kM NM 103) fun z291 =>
(F_X12_word (115 : Int32) (108 : Int32) (101 : Int32) (101 : Int32) (112 : Int32) (101 : Int32) (114 : Int32) σ290).bind fun v293 =>
cG (inb (11 : Int32) (kM z291).2) <|
cL (uJ σ290 z291 (11 : Int32).toNatClampNeg v293) fun σ295 =>
cR (σ295.2.2 a0 9) (okr kM NM 103) fun z296 =>
(F_X12_word (105 : Int32) (102 : Int32) (0 : Int32) (0 : Int32) (0 : Int32) (0 : Int32) (0 : Int32) σ295).bind fun v298 =>
cG (inb (12 : Int32) (kM z296).2) <|
cL (uJ σ295 z296 (12 : Int32).toNatClampNeg v298) fun σ300 =>
cR (σ300.2.2 a0 9) (okr kM NM 103) fun z301 =>
(F_X12_word (116 : Int32) (104 : Int32) (101 : Int32) (110 : Int32) (0 : Int32) (0 : Int32) (0 : Int32) σ300).bind fun v303 =>
cG (inb (13 : Int32) (kM z301).2) <|
cL (uJ σ300 z301 (13 : Int32).toNatClampNeg v303) fun σ305 =>
cR (σ305.2.2 a0 9) (okr kM NM 103) fun z306 =>
(F_X12_word (101 : Int32) (108 : Int32) (115 : Int32) (101 : Int32) (0 : Int32) (0 : Int32) (0 : Int32) σ305).bind fun v308 =>
cG (inb (14 : Int32) (kM z306).2) <|
cL (uJ σ305 z306 (14 : Int32).toNatClampNeg v308) fun σ310 =>
cR (σ310.2.2 a0 9) (okr kM NM 103) fun z311 =>
(F_X12_word (102 : Int32) (97 : Int32) (114 : Int32) (0 : Int32) (0 : Int32) (0 : Int32) (0 : Int32) σ310).bind fun v313 =>
cG (inb (15 : Int32) (kM z311).2) <|
cL (uJ σ310 z311 (15 : Int32).toNatClampNeg v313) fun σ315 =>
cR (σ315.2.2 a0 9) (okr kM NM 103) fun z316 =>
(F_X12_word (100 : Int32) (97 : Int32) (121 : Int32) (0 : Int32) (0 : Int32) (0 : Int32) (0 : Int32) σ315).bind fun v318 =>
cG (inb (16 : Int32) (kM z316).2) <|
cL (uJ σ315 z316 (16 : Int32).toNatClampNeg v318) fun σ320 =>
cR (σ320.2.2 a0 9) (okr kM NM 103) fun z321 =>
(F_X12_word (102 : Int32) (114 : Int32) (111 : Int32) (109 : Int32) (0 : Int32) (0 : Int32) (0 : Int32) σ320).bind fun v323 =>
cG (inb (17 : Int32) (kM z321).2) <|
cL (uJ σ320 z321 (17 : Int32).toNatClampNeg v323) fun σ325 =>
cR (σ325.2.2 a0 9) (okr kM NM 103) fun z326 =>
(F_X12_word (116 : Int32) (111 : Int32) (0 : Int32) (0 : Int32) (0 : Int32) (0 : Int32) (0 : Int32) σ325).bind fun v328 =>
cG (inb (18 : Int32) (kM z326).2) <|
cL (uJ σ325 z326 (18 : Int32).toNatClampNeg v328) fun σ330 =>
(F_X12_begins a0 σ330).bind fun σ332 =>
(F_X12_keepsRow a0 σ332).bind fun σ334 =>
some (NM, σ334)
section
variable {p : Program} {l : Launch} {e : Env} {s : State} {m : MethodId} {args : Array Value} {below : List Frame} {meth : Method} {c : Code} {D : va_G} {ay : Nat → ClassId} {ad : Nat → Nat}
set_option maxRecDepth 100000 in
set_option maxHeartbeats 16000000 in
theorem B_X12_init {n0 : Nat} {ad0 : Nat → Nat} {sz n' : Nat} {σ' : hSt} {H : Heap} {locs : List Loc} {ls : Array Slot} (a0 : Nat) (n : Nat) (σ : hSt) (hsz : s.heap.size = sz) (G : Gy p m c cX12_init 1 s args RX12 D ay (aZ n0 ad0 sz)) (hm : meth.sig.returnType = none ∧ meth.locks = false ∧ meth.name = "<init>") (hf : F_X12_init a0 n σ = some (n', σ')) (k_a0 : a0 < n ∧ (kM a0).1 = 12) (w : Wa D ay kM n0 ad0 true n ad (aZ n0 ad0 sz) s σ H locs) (hl : lv_has ls 1 [(0, .ref (ad a0))]) : W p l e (rmA 2 48 46 26531) s m args below meth c H locs 0 0 (MQ below (cA D ay kM n0 ad0 sz false n' σ') args s 46 26531 (aZ n0 ad0 sz)) (F0 m 0 ls []) := by
  unfold F_X12_init at hf
  refine lv_aload_n G.1.1 G.1.2.1 (dcs_get dec_X12_init_0 0 rfl) rfl (lv_at hl 0 rfl) ?_
  refine r_objI q_989 q_29 q_30 ⟨Nat.le_of_ble_eq_true rfl, Nat.le_of_ble_eq_true rfl⟩ G hl.1 (dcs_get dec_X12_init_0 1 rfl) ?_
  refine lv_aload_n G.1.1 G.1.2.1 (dcs_get dec_X12_init_0 2 rfl) rfl (lv_at hl 0 rfl) ?_
  refine lv_sipush (v := (2000 : Int32)) G.1.1 G.1.2.1 (dcs_get dec_X12_init_0 3 rfl) (by decide) ?_
  obtain ⟨h1, hf⟩ := cG_some hf
  obtain ⟨σ2, e_σ2, hf⟩ := cL_some hf
  obtain ⟨n3, e_n3, hf⟩ := cL_some hf
  refine r_newI (N := 2000) (t0 := 0) (ty := .byte) ⟨by decide, by decide⟩ (by simp) rfl q_46 (Nat.le_of_ble_eq_true rfl) G w h1 ⟨Nat.le_of_ble_eq_true rfl, Nat.le_of_ble_eq_true rfl⟩ (dcs_get dec_X12_init_0 4 rfl) (fun H ad1 e4 w => ?_)
  rw [← e4 a0 k_a0.1] at hl
  rw [← e4 a0 k_a0.1]
  have k_a0 := And.intro (Nat.lt_of_lt_of_le k_a0.1 (by omega : n ≤ n3)) k_a0.2
  have k_n : n < n3 ∧ (kM n).1 = 100 := ⟨by omega, by rw [eq_of_beq h1]⟩
  have w := Wa_nm e_n3 e_σ2 w
  generalize ad1 = ad at hl w ⊢
  clear e4
  obtain ⟨σ5, e_σ5, hf⟩ := cL_some hf
  refine r_putrF (k := 1) cls12 ctf12 fi_12_1.1 fi_12_1.2 rfl rfl (ctf12.1 1 fi_12_1.1) q_1009 (fun _ => rfl) (fun _ => rfl) hm.2.2 (G.gx w) w.1 k_a0.1 k_a0.2 (dcs_get dec_X12_init_0 5 rfl) (fun H locs w1 => ?_)
  have w := Wa_uP e_σ5 k_n.1 w w1
  refine lv_aload_n G.1.1 G.1.2.1 (dcs_get dec_X12_init_0 6 rfl) rfl (lv_at hl 0 rfl) ?_
  refine lv_sipush (v := (2000 : Int32)) G.1.1 G.1.2.1 (dcs_get dec_X12_init_0 7 rfl) (by decide) ?_
  obtain ⟨h6, hf⟩ := cG_some hf
  obtain ⟨σ7, e_σ7, hf⟩ := cL_some hf
  obtain ⟨n8, e_n8, hf⟩ := cL_some hf
  refine r_newI (N := 2000) (t0 := 0) (ty := .byte) ⟨by decide, by decide⟩ (by simp) rfl q_46 (Nat.le_of_ble_eq_true rfl) G w h6 ⟨Nat.le_of_ble_eq_true rfl, Nat.le_of_ble_eq_true rfl⟩ (dcs_get dec_X12_init_0 8 rfl) (fun H ad1 e9 w => ?_)
  rw [← e9 a0 k_a0.1] at hl
  rw [← e9 a0 k_a0.1]
  have k_a0 := And.intro (Nat.lt_of_lt_of_le k_a0.1 (by omega : n3 ≤ n8)) k_a0.2
  have k_n3 : n3 < n8 ∧ (kM n3).1 = 100 := ⟨by omega, by rw [eq_of_beq h6]⟩
  have w := Wa_nm e_n8 e_σ7 w
  generalize ad1 = ad at hl w ⊢
  clear e9
  obtain ⟨σ10, e_σ10, hf⟩ := cL_some hf
  refine r_putrF (k := 3) cls12 ctf12 fi_12_3.1 fi_12_3.2 rfl rfl (ctf12.1 3 fi_12_3.1) q_1011 (fun _ => rfl) (fun _ => rfl) hm.2.2 (G.gx w) w.1 k_a0.1 k_a0.2 (dcs_get dec_X12_init_0 9 rfl) (fun H locs w1 => ?_)
  have w := Wa_uP e_σ10 k_n3.1 w w1
  refine lv_aload_n G.1.1 G.1.2.1 (dcs_get dec_X12_init_0 10 rfl) rfl (lv_at hl 0 rfl) ?_
  refine lv_sipush (v := (403 : Int32)) G.1.1 G.1.2.1 (dcs_get dec_X12_init_0 11 rfl) (by decide) ?_
  obtain ⟨h11, hf⟩ := cG_some hf
  obtain ⟨σ12, e_σ12, hf⟩ := cL_some hf
  obtain ⟨n13, e_n13, hf⟩ := cL_some hf
  refine r_newI (N := 403) (t0 := 1) (ty := .int) ⟨by decide, by decide⟩ (by simp) rfl q_73 (Nat.le_of_ble_eq_true rfl) G w h11 ⟨Nat.le_of_ble_eq_true rfl, Nat.le_of_ble_eq_true rfl⟩ (dcs_get dec_X12_init_0 12 rfl) (fun H ad1 e14 w => ?_)
  rw [← e14 a0 k_a0.1] at hl
  rw [← e14 a0 k_a0.1]
  have k_a0 := And.intro (Nat.lt_of_lt_of_le k_a0.1 (by omega : n8 ≤ n13)) k_a0.2
  have k_n8 : n8 < n13 ∧ (kM n8).1 = 101 := ⟨by omega, by rw [eq_of_beq h11]⟩
  have w := Wa_nm e_n13 e_σ12 w
  generalize ad1 = ad at hl w ⊢
  clear e14
  obtain ⟨σ15, e_σ15, hf⟩ := cL_some hf
  refine r_putrF (k := 5) cls12 ctf12 fi_12_5.1 fi_12_5.2 rfl rfl (ctf12.1 5 fi_12_5.1) q_1013 (fun _ => rfl) (fun _ => rfl) hm.2.2 (G.gx w) w.1 k_a0.1 k_a0.2 (dcs_get dec_X12_init_0 13 rfl) (fun H locs w1 => ?_)
  have w := Wa_uP e_σ15 k_n8.1 w w1
  refine lv_aload_n G.1.1 G.1.2.1 (dcs_get dec_X12_init_0 14 rfl) rfl (lv_at hl 0 rfl) ?_
  refine lv_sipush (v := (403 : Int32)) G.1.1 G.1.2.1 (dcs_get dec_X12_init_0 15 rfl) (by decide) ?_
  obtain ⟨h16, hf⟩ := cG_some hf
  obtain ⟨σ17, e_σ17, hf⟩ := cL_some hf
  obtain ⟨n18, e_n18, hf⟩ := cL_some hf
  refine r_newI (N := 403) (t0 := 1) (ty := .int) ⟨by decide, by decide⟩ (by simp) rfl q_73 (Nat.le_of_ble_eq_true rfl) G w h16 ⟨Nat.le_of_ble_eq_true rfl, Nat.le_of_ble_eq_true rfl⟩ (dcs_get dec_X12_init_0 16 rfl) (fun H ad1 e19 w => ?_)
  rw [← e19 a0 k_a0.1] at hl
  rw [← e19 a0 k_a0.1]
  have k_a0 := And.intro (Nat.lt_of_lt_of_le k_a0.1 (by omega : n13 ≤ n18)) k_a0.2
  have k_n13 : n13 < n18 ∧ (kM n13).1 = 101 := ⟨by omega, by rw [eq_of_beq h16]⟩
  have w := Wa_nm e_n18 e_σ17 w
  generalize ad1 = ad at hl w ⊢
  clear e19
  obtain ⟨σ20, e_σ20, hf⟩ := cL_some hf
  refine r_putrF (k := 6) cls12 ctf12 fi_12_6.1 fi_12_6.2 rfl rfl (ctf12.1 6 fi_12_6.1) q_1014 (fun _ => rfl) (fun _ => rfl) hm.2.2 (G.gx w) w.1 k_a0.1 k_a0.2 (dcs_get dec_X12_init_0 17 rfl) (fun H locs w1 => ?_)
  have w := Wa_uP e_σ20 k_n13.1 w w1
  refine lv_aload_n G.1.1 G.1.2.1 (dcs_get dec_X12_init_0 18 rfl) rfl (lv_at hl 0 rfl) ?_
  refine lv_sipush (v := (403 : Int32)) G.1.1 G.1.2.1 (dcs_get dec_X12_init_0 19 rfl) (by decide) ?_
  obtain ⟨h21, hf⟩ := cG_some hf
  obtain ⟨σ22, e_σ22, hf⟩ := cL_some hf
  obtain ⟨n23, e_n23, hf⟩ := cL_some hf
  refine r_newI (N := 403) (t0 := 1) (ty := .int) ⟨by decide, by decide⟩ (by simp) rfl q_73 (Nat.le_of_ble_eq_true rfl) G w h21 ⟨Nat.le_of_ble_eq_true rfl, Nat.le_of_ble_eq_true rfl⟩ (dcs_get dec_X12_init_0 20 rfl) (fun H ad1 e24 w => ?_)
  rw [← e24 a0 k_a0.1] at hl
  rw [← e24 a0 k_a0.1]
  have k_a0 := And.intro (Nat.lt_of_lt_of_le k_a0.1 (by omega : n18 ≤ n23)) k_a0.2
  have k_n18 : n18 < n23 ∧ (kM n18).1 = 101 := ⟨by omega, by rw [eq_of_beq h21]⟩
  have w := Wa_nm e_n23 e_σ22 w
  generalize ad1 = ad at hl w ⊢
  clear e24
  obtain ⟨σ25, e_σ25, hf⟩ := cL_some hf
  refine r_putrF (k := 7) cls12 ctf12 fi_12_7.1 fi_12_7.2 rfl rfl (ctf12.1 7 fi_12_7.1) q_1015 (fun _ => rfl) (fun _ => rfl) hm.2.2 (G.gx w) w.1 k_a0.1 k_a0.2 (dcs_get dec_X12_init_0 21 rfl) (fun H locs w1 => ?_)
  have w := Wa_uP e_σ25 k_n18.1 w w1
  refine lv_aload_n G.1.1 G.1.2.1 (dcs_get dec_X12_init_0 22 rfl) rfl (lv_at hl 0 rfl) ?_
  refine lv_sipush (v := (403 : Int32)) G.1.1 G.1.2.1 (dcs_get dec_X12_init_0 23 rfl) (by decide) ?_
  obtain ⟨h26, hf⟩ := cG_some hf
  obtain ⟨σ27, e_σ27, hf⟩ := cL_some hf
  obtain ⟨n28, e_n28, hf⟩ := cL_some hf
  refine r_newJ (N := 403) ⟨by decide, by decide⟩ q_171 (Nat.le_of_ble_eq_true rfl) G w h26 ⟨Nat.le_of_ble_eq_true rfl, Nat.le_of_ble_eq_true rfl⟩ (dcs_get dec_X12_init_0 24 rfl) (fun H ad1 e29 w => ?_)
  rw [← e29 a0 k_a0.1] at hl
  rw [← e29 a0 k_a0.1]
  have k_a0 := And.intro (Nat.lt_of_lt_of_le k_a0.1 (by omega : n23 ≤ n28)) k_a0.2
  have k_n23 : n23 < n28 ∧ (kM n23).1 = 103 := ⟨by omega, by rw [eq_of_beq h26]⟩
  have w := Wa_nm e_n28 e_σ27 w
  generalize ad1 = ad at hl w ⊢
  clear e29
  obtain ⟨σ30, e_σ30, hf⟩ := cL_some hf
  refine r_putrF (k := 8) cls12 ctf12 fi_12_8.1 fi_12_8.2 rfl rfl (ctf12.1 8 fi_12_8.1) q_1016 (fun _ => rfl) (fun _ => rfl) hm.2.2 (G.gx w) w.1 k_a0.1 k_a0.2 (dcs_get dec_X12_init_0 25 rfl) (fun H locs w1 => ?_)
  have w := Wa_uP e_σ30 k_n23.1 w w1
  refine lv_aload_n G.1.1 G.1.2.1 (dcs_get dec_X12_init_0 26 rfl) rfl (lv_at hl 0 rfl) ?_
  refine lv_bipush (v := (19 : Int32)) G.1.1 G.1.2.1 (dcs_get dec_X12_init_0 27 rfl) (by decide) ?_
  obtain ⟨h31, hf⟩ := cG_some hf
  obtain ⟨σ32, e_σ32, hf⟩ := cL_some hf
  obtain ⟨n33, e_n33, hf⟩ := cL_some hf
  refine r_newJ (N := 19) ⟨by decide, by decide⟩ q_171 (Nat.le_of_ble_eq_true rfl) G w h31 ⟨Nat.le_of_ble_eq_true rfl, Nat.le_of_ble_eq_true rfl⟩ (dcs_get dec_X12_init_0 28 rfl) (fun H ad1 e34 w => ?_)
  rw [← e34 a0 k_a0.1] at hl
  rw [← e34 a0 k_a0.1]
  have k_a0 := And.intro (Nat.lt_of_lt_of_le k_a0.1 (by omega : n28 ≤ n33)) k_a0.2
  have k_n28 : n28 < n33 ∧ (kM n28).1 = 103 := ⟨by omega, by rw [eq_of_beq h31]⟩
  have w := Wa_nm e_n33 e_σ32 w
  generalize ad1 = ad at hl w ⊢
  clear e34
  obtain ⟨σ35, e_σ35, hf⟩ := cL_some hf
  refine r_putrF (k := 9) cls12 ctf12 fi_12_9.1 fi_12_9.2 rfl rfl (ctf12.1 9 fi_12_9.1) q_1017 (fun _ => rfl) (fun _ => rfl) hm.2.2 (G.gx w) w.1 k_a0.1 k_a0.2 (dcs_get dec_X12_init_0 29 rfl) (fun H locs w1 => ?_)
  have w := Wa_uP e_σ35 k_n28.1 w w1
  refine lv_aload_n G.1.1 G.1.2.1 (dcs_get dec_X12_init_0 30 rfl) rfl (lv_at hl 0 rfl) ?_
  refine lv_iconst (v := (-1 : Int32)) G.1.1 G.1.2.1 (dcs_get dec_X12_init_0 31 rfl) (by decide) ?_
  obtain ⟨σ36, e_σ36, hf⟩ := cL_some hf
  refine r_puti (k := 17) cls12 ct12 fi_12_17.1 fi_12_17.2 fp_12_17.1 fp_12_17.2 q_1025 rfl rfl (G.gx w) w.1 k_a0.1 k_a0.2 (dcs_get dec_X12_init_0 32 rfl) (fun H locs w1 => ?_)
  have w := Wa_uI e_σ36 w w1
  refine lv_aload_n G.1.1 G.1.2.1 (dcs_get dec_X12_init_0 33 rfl) rfl (lv_at hl 0 rfl) ?_
  refine lv_bipush (v := (10 : Int32)) G.1.1 G.1.2.1 (dcs_get dec_X12_init_0 34 rfl) (by decide) ?_
  obtain ⟨h37, hf⟩ := cG_some hf
  obtain ⟨σ38, e_σ38, hf⟩ := cL_some hf
  obtain ⟨n39, e_n39, hf⟩ := cL_some hf
  refine r_newJ (N := 10) ⟨by decide, by decide⟩ q_171 (Nat.le_of_ble_eq_true rfl) G w h37 ⟨Nat.le_of_ble_eq_true rfl, Nat.le_of_ble_eq_true rfl⟩ (dcs_get dec_X12_init_0 35 rfl) (fun H ad1 e40 w => ?_)
  rw [← e40 a0 k_a0.1] at hl
  rw [← e40 a0 k_a0.1]
  have k_a0 := And.intro (Nat.lt_of_lt_of_le k_a0.1 (by omega : n33 ≤ n39)) k_a0.2
  have k_n33 : n33 < n39 ∧ (kM n33).1 = 103 := ⟨by omega, by rw [eq_of_beq h37]⟩
  have w := Wa_nm e_n39 e_σ38 w
  generalize ad1 = ad at hl w ⊢
  clear e40
  obtain ⟨σ41, e_σ41, hf⟩ := cL_some hf
  refine r_putrF (k := 21) cls12 ctf12 fi_12_21.1 fi_12_21.2 rfl rfl (ctf12.1 21 fi_12_21.1) q_1029 (fun _ => rfl) (fun _ => rfl) hm.2.2 (G.gx w) w.1 k_a0.1 k_a0.2 (dcs_get dec_X12_init_0 36 rfl) (fun H locs w1 => ?_)
  have w := Wa_uP e_σ41 k_n33.1 w w1
  refine lv_aload_n G.1.1 G.1.2.1 (dcs_get dec_X12_init_0 37 rfl) rfl (lv_at hl 0 rfl) ?_
  refine lv_bipush (v := (10 : Int32)) G.1.1 G.1.2.1 (dcs_get dec_X12_init_0 38 rfl) (by decide) ?_
  obtain ⟨h42, hf⟩ := cG_some hf
  obtain ⟨σ43, e_σ43, hf⟩ := cL_some hf
  obtain ⟨n44, e_n44, hf⟩ := cL_some hf
  refine r_newI (N := 10) (t0 := 1) (ty := .int) ⟨by decide, by decide⟩ (by simp) rfl q_73 (Nat.le_of_ble_eq_true rfl) G w h42 ⟨Nat.le_of_ble_eq_true rfl, Nat.le_of_ble_eq_true rfl⟩ (dcs_get dec_X12_init_0 39 rfl) (fun H ad1 e45 w => ?_)
  rw [← e45 a0 k_a0.1] at hl
  rw [← e45 a0 k_a0.1]
  have k_a0 := And.intro (Nat.lt_of_lt_of_le k_a0.1 (by omega : n39 ≤ n44)) k_a0.2
  have k_n39 : n39 < n44 ∧ (kM n39).1 = 101 := ⟨by omega, by rw [eq_of_beq h42]⟩
  have w := Wa_nm e_n44 e_σ43 w
  generalize ad1 = ad at hl w ⊢
  clear e45
  obtain ⟨σ46, e_σ46, hf⟩ := cL_some hf
  refine r_putrF (k := 22) cls12 ctf12 fi_12_22.1 fi_12_22.2 rfl rfl (ctf12.1 22 fi_12_22.1) q_1030 (fun _ => rfl) (fun _ => rfl) hm.2.2 (G.gx w) w.1 k_a0.1 k_a0.2 (dcs_get dec_X12_init_1 0 rfl) (fun H locs w1 => ?_)
  have w := Wa_uP e_σ46 k_n39.1 w w1
  refine lv_aload_n G.1.1 G.1.2.1 (dcs_get dec_X12_init_1 1 rfl) rfl (lv_at hl 0 rfl) ?_
  refine lv_bipush (v := (10 : Int32)) G.1.1 G.1.2.1 (dcs_get dec_X12_init_1 2 rfl) (by decide) ?_
  obtain ⟨h47, hf⟩ := cG_some hf
  obtain ⟨σ48, e_σ48, hf⟩ := cL_some hf
  obtain ⟨n49, e_n49, hf⟩ := cL_some hf
  refine r_newI (N := 10) (t0 := 1) (ty := .int) ⟨by decide, by decide⟩ (by simp) rfl q_73 (Nat.le_of_ble_eq_true rfl) G w h47 ⟨Nat.le_of_ble_eq_true rfl, Nat.le_of_ble_eq_true rfl⟩ (dcs_get dec_X12_init_1 3 rfl) (fun H ad1 e50 w => ?_)
  rw [← e50 a0 k_a0.1] at hl
  rw [← e50 a0 k_a0.1]
  have k_a0 := And.intro (Nat.lt_of_lt_of_le k_a0.1 (by omega : n44 ≤ n49)) k_a0.2
  have k_n44 : n44 < n49 ∧ (kM n44).1 = 101 := ⟨by omega, by rw [eq_of_beq h47]⟩
  have w := Wa_nm e_n49 e_σ48 w
  generalize ad1 = ad at hl w ⊢
  clear e50
  obtain ⟨σ51, e_σ51, hf⟩ := cL_some hf
  refine r_putrF (k := 23) cls12 ctf12 fi_12_23.1 fi_12_23.2 rfl rfl (ctf12.1 23 fi_12_23.1) q_1031 (fun _ => rfl) (fun _ => rfl) hm.2.2 (G.gx w) w.1 k_a0.1 k_a0.2 (dcs_get dec_X12_init_1 4 rfl) (fun H locs w1 => ?_)
  have w := Wa_uP e_σ51 k_n44.1 w w1
  refine lv_aload_n G.1.1 G.1.2.1 (dcs_get dec_X12_init_1 5 rfl) rfl (lv_at hl 0 rfl) ?_
  refine lv_iconst (v := (2 : Int32)) G.1.1 G.1.2.1 (dcs_get dec_X12_init_1 6 rfl) (by decide) ?_
  obtain ⟨h52, hf⟩ := cG_some hf
  obtain ⟨σ53, e_σ53, hf⟩ := cL_some hf
  obtain ⟨n54, e_n54, hf⟩ := cL_some hf
  refine r_newI (N := 2) (t0 := 1) (ty := .int) ⟨by decide, by decide⟩ (by simp) rfl q_73 (Nat.le_of_ble_eq_true rfl) G w h52 ⟨Nat.le_of_ble_eq_true rfl, Nat.le_of_ble_eq_true rfl⟩ (dcs_get dec_X12_init_1 7 rfl) (fun H ad1 e55 w => ?_)
  rw [← e55 a0 k_a0.1] at hl
  rw [← e55 a0 k_a0.1]
  have k_a0 := And.intro (Nat.lt_of_lt_of_le k_a0.1 (by omega : n49 ≤ n54)) k_a0.2
  have k_n49 : n49 < n54 ∧ (kM n49).1 = 101 := ⟨by omega, by rw [eq_of_beq h52]⟩
  have w := Wa_nm e_n54 e_σ53 w
  generalize ad1 = ad at hl w ⊢
  clear e55
  obtain ⟨σ56, e_σ56, hf⟩ := cL_some hf
  refine r_putrF (k := 24) cls12 ctf12 fi_12_24.1 fi_12_24.2 rfl rfl (ctf12.1 24 fi_12_24.1) q_1032 (fun _ => rfl) (fun _ => rfl) hm.2.2 (G.gx w) w.1 k_a0.1 k_a0.2 (dcs_get dec_X12_init_1 8 rfl) (fun H locs w1 => ?_)
  have w := Wa_uP e_σ56 k_n49.1 w w1
  refine lv_aload_n G.1.1 G.1.2.1 (dcs_get dec_X12_init_1 9 rfl) rfl (lv_at hl 0 rfl) ?_
  refine lv_bipush (v := (12 : Int32)) G.1.1 G.1.2.1 (dcs_get dec_X12_init_1 10 rfl) (by decide) ?_
  obtain ⟨h57, hf⟩ := cG_some hf
  obtain ⟨σ58, e_σ58, hf⟩ := cL_some hf
  obtain ⟨n59, e_n59, hf⟩ := cL_some hf
  refine r_newI (N := 12) (t0 := 1) (ty := .int) ⟨by decide, by decide⟩ (by simp) rfl q_73 (Nat.le_of_ble_eq_true rfl) G w h57 ⟨Nat.le_of_ble_eq_true rfl, Nat.le_of_ble_eq_true rfl⟩ (dcs_get dec_X12_init_1 11 rfl) (fun H ad1 e60 w => ?_)
  rw [← e60 a0 k_a0.1] at hl
  rw [← e60 a0 k_a0.1]
  have k_a0 := And.intro (Nat.lt_of_lt_of_le k_a0.1 (by omega : n54 ≤ n59)) k_a0.2
  have k_n54 : n54 < n59 ∧ (kM n54).1 = 101 := ⟨by omega, by rw [eq_of_beq h57]⟩
  have w := Wa_nm e_n59 e_σ58 w
  generalize ad1 = ad at hl w ⊢
  clear e60
  obtain ⟨σ61, e_σ61, hf⟩ := cL_some hf
  refine r_putrF (k := 25) cls12 ctf12 fi_12_25.1 fi_12_25.2 rfl rfl (ctf12.1 25 fi_12_25.1) q_1033 (fun _ => rfl) (fun _ => rfl) hm.2.2 (G.gx w) w.1 k_a0.1 k_a0.2 (dcs_get dec_X12_init_1 12 rfl) (fun H locs w1 => ?_)
  have w := Wa_uP e_σ61 k_n54.1 w w1
  refine lv_aload_n G.1.1 G.1.2.1 (dcs_get dec_X12_init_1 13 rfl) rfl (lv_at hl 0 rfl) ?_
  refine lv_bipush (v := (12 : Int32)) G.1.1 G.1.2.1 (dcs_get dec_X12_init_1 14 rfl) (by decide) ?_
  obtain ⟨h62, hf⟩ := cG_some hf
  obtain ⟨σ63, e_σ63, hf⟩ := cL_some hf
  obtain ⟨n64, e_n64, hf⟩ := cL_some hf
  refine r_newI (N := 12) (t0 := 1) (ty := .int) ⟨by decide, by decide⟩ (by simp) rfl q_73 (Nat.le_of_ble_eq_true rfl) G w h62 ⟨Nat.le_of_ble_eq_true rfl, Nat.le_of_ble_eq_true rfl⟩ (dcs_get dec_X12_init_1 15 rfl) (fun H ad1 e65 w => ?_)
  rw [← e65 a0 k_a0.1] at hl
  rw [← e65 a0 k_a0.1]
  have k_a0 := And.intro (Nat.lt_of_lt_of_le k_a0.1 (by omega : n59 ≤ n64)) k_a0.2
  have k_n59 : n59 < n64 ∧ (kM n59).1 = 101 := ⟨by omega, by rw [eq_of_beq h62]⟩
  have w := Wa_nm e_n64 e_σ63 w
  generalize ad1 = ad at hl w ⊢
  clear e65
  obtain ⟨σ66, e_σ66, hf⟩ := cL_some hf
  refine r_putrF (k := 26) cls12 ctf12 fi_12_26.1 fi_12_26.2 rfl rfl (ctf12.1 26 fi_12_26.1) q_1034 (fun _ => rfl) (fun _ => rfl) hm.2.2 (G.gx w) w.1 k_a0.1 k_a0.2 (dcs_get dec_X12_init_1 16 rfl) (fun H locs w1 => ?_)
  have w := Wa_uP e_σ66 k_n59.1 w w1
  refine lv_aload_n G.1.1 G.1.2.1 (dcs_get dec_X12_init_1 17 rfl) rfl (lv_at hl 0 rfl) ?_
  refine lv_iconst (v := (2 : Int32)) G.1.1 G.1.2.1 (dcs_get dec_X12_init_1 18 rfl) (by decide) ?_
  obtain ⟨h67, hf⟩ := cG_some hf
  obtain ⟨σ68, e_σ68, hf⟩ := cL_some hf
  obtain ⟨n69, e_n69, hf⟩ := cL_some hf
  refine r_newI (N := 2) (t0 := 1) (ty := .int) ⟨by decide, by decide⟩ (by simp) rfl q_73 (Nat.le_of_ble_eq_true rfl) G w h67 ⟨Nat.le_of_ble_eq_true rfl, Nat.le_of_ble_eq_true rfl⟩ (dcs_get dec_X12_init_1 19 rfl) (fun H ad1 e70 w => ?_)
  rw [← e70 a0 k_a0.1] at hl
  rw [← e70 a0 k_a0.1]
  have k_a0 := And.intro (Nat.lt_of_lt_of_le k_a0.1 (by omega : n64 ≤ n69)) k_a0.2
  have k_n64 : n64 < n69 ∧ (kM n64).1 = 101 := ⟨by omega, by rw [eq_of_beq h67]⟩
  have w := Wa_nm e_n69 e_σ68 w
  generalize ad1 = ad at hl w ⊢
  clear e70
  obtain ⟨σ71, e_σ71, hf⟩ := cL_some hf
  refine r_putrF (k := 27) cls12 ctf12 fi_12_27.1 fi_12_27.2 rfl rfl (ctf12.1 27 fi_12_27.1) q_1035 (fun _ => rfl) (fun _ => rfl) hm.2.2 (G.gx w) w.1 k_a0.1 k_a0.2 (dcs_get dec_X12_init_1 20 rfl) (fun H locs w1 => ?_)
  have w := Wa_uP e_σ71 k_n64.1 w w1
  refine lv_aload_n G.1.1 G.1.2.1 (dcs_get dec_X12_init_1 21 rfl) rfl (lv_at hl 0 rfl) ?_
  refine lv_bipush (v := (8 : Int32)) G.1.1 G.1.2.1 (dcs_get dec_X12_init_1 22 rfl) (by decide) ?_
  obtain ⟨h72, hf⟩ := cG_some hf
  obtain ⟨σ73, e_σ73, hf⟩ := cL_some hf
  obtain ⟨n74, e_n74, hf⟩ := cL_some hf
  refine r_newI (N := 8) (t0 := 1) (ty := .int) ⟨by decide, by decide⟩ (by simp) rfl q_73 (Nat.le_of_ble_eq_true rfl) G w h72 ⟨Nat.le_of_ble_eq_true rfl, Nat.le_of_ble_eq_true rfl⟩ (dcs_get dec_X12_init_1 23 rfl) (fun H ad1 e75 w => ?_)
  rw [← e75 a0 k_a0.1] at hl
  rw [← e75 a0 k_a0.1]
  have k_a0 := And.intro (Nat.lt_of_lt_of_le k_a0.1 (by omega : n69 ≤ n74)) k_a0.2
  have k_n69 : n69 < n74 ∧ (kM n69).1 = 101 := ⟨by omega, by rw [eq_of_beq h72]⟩
  have w := Wa_nm e_n74 e_σ73 w
  generalize ad1 = ad at hl w ⊢
  clear e75
  obtain ⟨σ76, e_σ76, hf⟩ := cL_some hf
  refine r_putrF (k := 28) cls12 ctf12 fi_12_28.1 fi_12_28.2 rfl rfl (ctf12.1 28 fi_12_28.1) q_1036 (fun _ => rfl) (fun _ => rfl) hm.2.2 (G.gx w) w.1 k_a0.1 k_a0.2 (dcs_get dec_X12_init_1 24 rfl) (fun H locs w1 => ?_)
  have w := Wa_uP e_σ76 k_n69.1 w w1
  refine lv_aload_n G.1.1 G.1.2.1 (dcs_get dec_X12_init_1 25 rfl) rfl (lv_at hl 0 rfl) ?_
  refine lv_iconst (v := (4 : Int32)) G.1.1 G.1.2.1 (dcs_get dec_X12_init_1 26 rfl) (by decide) ?_
  obtain ⟨h77, hf⟩ := cG_some hf
  obtain ⟨σ78, e_σ78, hf⟩ := cL_some hf
  obtain ⟨n79, e_n79, hf⟩ := cL_some hf
  refine r_newI (N := 4) (t0 := 1) (ty := .int) ⟨by decide, by decide⟩ (by simp) rfl q_73 (Nat.le_of_ble_eq_true rfl) G w h77 ⟨Nat.le_of_ble_eq_true rfl, Nat.le_of_ble_eq_true rfl⟩ (dcs_get dec_X12_init_1 27 rfl) (fun H ad1 e80 w => ?_)
  rw [← e80 a0 k_a0.1] at hl
  rw [← e80 a0 k_a0.1]
  have k_a0 := And.intro (Nat.lt_of_lt_of_le k_a0.1 (by omega : n74 ≤ n79)) k_a0.2
  have k_n74 : n74 < n79 ∧ (kM n74).1 = 101 := ⟨by omega, by rw [eq_of_beq h77]⟩
  have w := Wa_nm e_n79 e_σ78 w
  generalize ad1 = ad at hl w ⊢
  clear e80
  obtain ⟨σ81, e_σ81, hf⟩ := cL_some hf
  refine r_putrF (k := 29) cls12 ctf12 fi_12_29.1 fi_12_29.2 rfl rfl (ctf12.1 29 fi_12_29.1) q_1037 (fun _ => rfl) (fun _ => rfl) hm.2.2 (G.gx w) w.1 k_a0.1 k_a0.2 (dcs_get dec_X12_init_1 28 rfl) (fun H locs w1 => ?_)
  have w := Wa_uP e_σ81 k_n74.1 w w1
  refine lv_aload_n G.1.1 G.1.2.1 (dcs_get dec_X12_init_1 29 rfl) rfl (lv_at hl 0 rfl) ?_
  refine lv_bipush (v := (48 : Int32)) G.1.1 G.1.2.1 (dcs_get dec_X12_init_1 30 rfl) (by decide) ?_
  obtain ⟨h82, hf⟩ := cG_some hf
  obtain ⟨σ83, e_σ83, hf⟩ := cL_some hf
  obtain ⟨n84, e_n84, hf⟩ := cL_some hf
  refine r_newI (N := 48) (t0 := 1) (ty := .int) ⟨by decide, by decide⟩ (by simp) rfl q_73 (Nat.le_of_ble_eq_true rfl) G w h82 ⟨Nat.le_of_ble_eq_true rfl, Nat.le_of_ble_eq_true rfl⟩ (dcs_get dec_X12_init_1 31 rfl) (fun H ad1 e85 w => ?_)
  rw [← e85 a0 k_a0.1] at hl
  rw [← e85 a0 k_a0.1]
  have k_a0 := And.intro (Nat.lt_of_lt_of_le k_a0.1 (by omega : n79 ≤ n84)) k_a0.2
  have k_n79 : n79 < n84 ∧ (kM n79).1 = 101 := ⟨by omega, by rw [eq_of_beq h82]⟩
  have w := Wa_nm e_n84 e_σ83 w
  generalize ad1 = ad at hl w ⊢
  clear e85
  obtain ⟨σ86, e_σ86, hf⟩ := cL_some hf
  refine r_putrF (k := 30) cls12 ctf12 fi_12_30.1 fi_12_30.2 rfl rfl (ctf12.1 30 fi_12_30.1) q_1038 (fun _ => rfl) (fun _ => rfl) hm.2.2 (G.gx w) w.1 k_a0.1 k_a0.2 (dcs_get dec_X12_init_1 32 rfl) (fun H locs w1 => ?_)
  have w := Wa_uP e_σ86 k_n79.1 w w1
  refine lv_aload_n G.1.1 G.1.2.1 (dcs_get dec_X12_init_1 33 rfl) rfl (lv_at hl 0 rfl) ?_
  refine lv_iconst (v := (2 : Int32)) G.1.1 G.1.2.1 (dcs_get dec_X12_init_1 34 rfl) (by decide) ?_
  obtain ⟨h87, hf⟩ := cG_some hf
  obtain ⟨σ88, e_σ88, hf⟩ := cL_some hf
  obtain ⟨n89, e_n89, hf⟩ := cL_some hf
  refine r_newI (N := 2) (t0 := 1) (ty := .int) ⟨by decide, by decide⟩ (by simp) rfl q_73 (Nat.le_of_ble_eq_true rfl) G w h87 ⟨Nat.le_of_ble_eq_true rfl, Nat.le_of_ble_eq_true rfl⟩ (dcs_get dec_X12_init_1 35 rfl) (fun H ad1 e90 w => ?_)
  rw [← e90 a0 k_a0.1] at hl
  rw [← e90 a0 k_a0.1]
  have k_a0 := And.intro (Nat.lt_of_lt_of_le k_a0.1 (by omega : n84 ≤ n89)) k_a0.2
  have k_n84 : n84 < n89 ∧ (kM n84).1 = 101 := ⟨by omega, by rw [eq_of_beq h87]⟩
  have w := Wa_nm e_n89 e_σ88 w
  generalize ad1 = ad at hl w ⊢
  clear e90
  obtain ⟨σ91, e_σ91, hf⟩ := cL_some hf
  refine r_putrF (k := 31) cls12 ctf12 fi_12_31.1 fi_12_31.2 rfl rfl (ctf12.1 31 fi_12_31.1) q_1039 (fun _ => rfl) (fun _ => rfl) hm.2.2 (G.gx w) w.1 k_a0.1 k_a0.2 (dcs_get dec_X12_init_1 36 rfl) (fun H locs w1 => ?_)
  have w := Wa_uP e_σ91 k_n84.1 w w1
  refine lv_aload_n G.1.1 G.1.2.1 (dcs_get dec_X12_init_1 37 rfl) rfl (lv_at hl 0 rfl) ?_
  refine lv_iconst (v := (2 : Int32)) G.1.1 G.1.2.1 (dcs_get dec_X12_init_1 38 rfl) (by decide) ?_
  obtain ⟨h92, hf⟩ := cG_some hf
  obtain ⟨σ93, e_σ93, hf⟩ := cL_some hf
  obtain ⟨n94, e_n94, hf⟩ := cL_some hf
  refine r_newI (N := 2) (t0 := 1) (ty := .int) ⟨by decide, by decide⟩ (by simp) rfl q_73 (Nat.le_of_ble_eq_true rfl) G w h92 ⟨Nat.le_of_ble_eq_true rfl, Nat.le_of_ble_eq_true rfl⟩ (dcs_get dec_X12_init_1 39 rfl) (fun H ad1 e95 w => ?_)
  rw [← e95 a0 k_a0.1] at hl
  rw [← e95 a0 k_a0.1]
  have k_a0 := And.intro (Nat.lt_of_lt_of_le k_a0.1 (by omega : n89 ≤ n94)) k_a0.2
  have k_n89 : n89 < n94 ∧ (kM n89).1 = 101 := ⟨by omega, by rw [eq_of_beq h92]⟩
  have w := Wa_nm e_n94 e_σ93 w
  generalize ad1 = ad at hl w ⊢
  clear e95
  obtain ⟨σ96, e_σ96, hf⟩ := cL_some hf
  refine r_putrF (k := 32) cls12 ctf12 fi_12_32.1 fi_12_32.2 rfl rfl (ctf12.1 32 fi_12_32.1) q_1040 (fun _ => rfl) (fun _ => rfl) hm.2.2 (G.gx w) w.1 k_a0.1 k_a0.2 (dcs_get dec_X12_init_2 0 rfl) (fun H locs w1 => ?_)
  have w := Wa_uP e_σ96 k_n89.1 w w1
  refine lv_aload_n G.1.1 G.1.2.1 (dcs_get dec_X12_init_2 1 rfl) rfl (lv_at hl 0 rfl) ?_
  refine lv_bipush (v := (8 : Int32)) G.1.1 G.1.2.1 (dcs_get dec_X12_init_2 2 rfl) (by decide) ?_
  obtain ⟨h97, hf⟩ := cG_some hf
  obtain ⟨σ98, e_σ98, hf⟩ := cL_some hf
  obtain ⟨n99, e_n99, hf⟩ := cL_some hf
  refine r_newI (N := 8) (t0 := 1) (ty := .int) ⟨by decide, by decide⟩ (by simp) rfl q_73 (Nat.le_of_ble_eq_true rfl) G w h97 ⟨Nat.le_of_ble_eq_true rfl, Nat.le_of_ble_eq_true rfl⟩ (dcs_get dec_X12_init_2 3 rfl) (fun H ad1 e100 w => ?_)
  rw [← e100 a0 k_a0.1] at hl
  rw [← e100 a0 k_a0.1]
  have k_a0 := And.intro (Nat.lt_of_lt_of_le k_a0.1 (by omega : n94 ≤ n99)) k_a0.2
  have k_n94 : n94 < n99 ∧ (kM n94).1 = 101 := ⟨by omega, by rw [eq_of_beq h97]⟩
  have w := Wa_nm e_n99 e_σ98 w
  generalize ad1 = ad at hl w ⊢
  clear e100
  obtain ⟨σ101, e_σ101, hf⟩ := cL_some hf
  refine r_putrF (k := 33) cls12 ctf12 fi_12_33.1 fi_12_33.2 rfl rfl (ctf12.1 33 fi_12_33.1) q_1041 (fun _ => rfl) (fun _ => rfl) hm.2.2 (G.gx w) w.1 k_a0.1 k_a0.2 (dcs_get dec_X12_init_2 4 rfl) (fun H locs w1 => ?_)
  have w := Wa_uP e_σ101 k_n94.1 w w1
  refine lv_aload_n G.1.1 G.1.2.1 (dcs_get dec_X12_init_2 5 rfl) rfl (lv_at hl 0 rfl) ?_
  refine lv_bipush (v := (8 : Int32)) G.1.1 G.1.2.1 (dcs_get dec_X12_init_2 6 rfl) (by decide) ?_
  obtain ⟨h102, hf⟩ := cG_some hf
  obtain ⟨σ103, e_σ103, hf⟩ := cL_some hf
  obtain ⟨n104, e_n104, hf⟩ := cL_some hf
  refine r_newI (N := 8) (t0 := 1) (ty := .int) ⟨by decide, by decide⟩ (by simp) rfl q_73 (Nat.le_of_ble_eq_true rfl) G w h102 ⟨Nat.le_of_ble_eq_true rfl, Nat.le_of_ble_eq_true rfl⟩ (dcs_get dec_X12_init_2 7 rfl) (fun H ad1 e105 w => ?_)
  rw [← e105 a0 k_a0.1] at hl
  rw [← e105 a0 k_a0.1]
  have k_a0 := And.intro (Nat.lt_of_lt_of_le k_a0.1 (by omega : n99 ≤ n104)) k_a0.2
  have k_n99 : n99 < n104 ∧ (kM n99).1 = 101 := ⟨by omega, by rw [eq_of_beq h102]⟩
  have w := Wa_nm e_n104 e_σ103 w
  generalize ad1 = ad at hl w ⊢
  clear e105
  obtain ⟨σ106, e_σ106, hf⟩ := cL_some hf
  refine r_putrF (k := 34) cls12 ctf12 fi_12_34.1 fi_12_34.2 rfl rfl (ctf12.1 34 fi_12_34.1) q_1042 (fun _ => rfl) (fun _ => rfl) hm.2.2 (G.gx w) w.1 k_a0.1 k_a0.2 (dcs_get dec_X12_init_2 8 rfl) (fun H locs w1 => ?_)
  have w := Wa_uP e_σ106 k_n99.1 w w1
  refine lv_aload_n G.1.1 G.1.2.1 (dcs_get dec_X12_init_2 9 rfl) rfl (lv_at hl 0 rfl) ?_
  refine lv_bipush (v := (8 : Int32)) G.1.1 G.1.2.1 (dcs_get dec_X12_init_2 10 rfl) (by decide) ?_
  obtain ⟨h107, hf⟩ := cG_some hf
  obtain ⟨σ108, e_σ108, hf⟩ := cL_some hf
  obtain ⟨n109, e_n109, hf⟩ := cL_some hf
  refine r_newI (N := 8) (t0 := 1) (ty := .int) ⟨by decide, by decide⟩ (by simp) rfl q_73 (Nat.le_of_ble_eq_true rfl) G w h107 ⟨Nat.le_of_ble_eq_true rfl, Nat.le_of_ble_eq_true rfl⟩ (dcs_get dec_X12_init_2 11 rfl) (fun H ad1 e110 w => ?_)
  rw [← e110 a0 k_a0.1] at hl
  rw [← e110 a0 k_a0.1]
  have k_a0 := And.intro (Nat.lt_of_lt_of_le k_a0.1 (by omega : n104 ≤ n109)) k_a0.2
  have k_n104 : n104 < n109 ∧ (kM n104).1 = 101 := ⟨by omega, by rw [eq_of_beq h107]⟩
  have w := Wa_nm e_n109 e_σ108 w
  generalize ad1 = ad at hl w ⊢
  clear e110
  obtain ⟨σ111, e_σ111, hf⟩ := cL_some hf
  refine r_putrF (k := 35) cls12 ctf12 fi_12_35.1 fi_12_35.2 rfl rfl (ctf12.1 35 fi_12_35.1) q_1043 (fun _ => rfl) (fun _ => rfl) hm.2.2 (G.gx w) w.1 k_a0.1 k_a0.2 (dcs_get dec_X12_init_2 12 rfl) (fun H locs w1 => ?_)
  have w := Wa_uP e_σ111 k_n104.1 w w1
  refine lv_aload_n G.1.1 G.1.2.1 (dcs_get dec_X12_init_2 13 rfl) rfl (lv_at hl 0 rfl) ?_
  refine lv_iconst (v := (2 : Int32)) G.1.1 G.1.2.1 (dcs_get dec_X12_init_2 14 rfl) (by decide) ?_
  obtain ⟨h112, hf⟩ := cG_some hf
  obtain ⟨σ113, e_σ113, hf⟩ := cL_some hf
  obtain ⟨n114, e_n114, hf⟩ := cL_some hf
  refine r_newI (N := 2) (t0 := 1) (ty := .int) ⟨by decide, by decide⟩ (by simp) rfl q_73 (Nat.le_of_ble_eq_true rfl) G w h112 ⟨Nat.le_of_ble_eq_true rfl, Nat.le_of_ble_eq_true rfl⟩ (dcs_get dec_X12_init_2 15 rfl) (fun H ad1 e115 w => ?_)
  rw [← e115 a0 k_a0.1] at hl
  rw [← e115 a0 k_a0.1]
  have k_a0 := And.intro (Nat.lt_of_lt_of_le k_a0.1 (by omega : n109 ≤ n114)) k_a0.2
  have k_n109 : n109 < n114 ∧ (kM n109).1 = 101 := ⟨by omega, by rw [eq_of_beq h112]⟩
  have w := Wa_nm e_n114 e_σ113 w
  generalize ad1 = ad at hl w ⊢
  clear e115
  obtain ⟨σ116, e_σ116, hf⟩ := cL_some hf
  refine r_putrF (k := 36) cls12 ctf12 fi_12_36.1 fi_12_36.2 rfl rfl (ctf12.1 36 fi_12_36.1) q_1044 (fun _ => rfl) (fun _ => rfl) hm.2.2 (G.gx w) w.1 k_a0.1 k_a0.2 (dcs_get dec_X12_init_2 16 rfl) (fun H locs w1 => ?_)
  have w := Wa_uP e_σ116 k_n109.1 w w1
  refine lv_aload_n G.1.1 G.1.2.1 (dcs_get dec_X12_init_2 17 rfl) rfl (lv_at hl 0 rfl) ?_
  refine lv_iconst (v := (2 : Int32)) G.1.1 G.1.2.1 (dcs_get dec_X12_init_2 18 rfl) (by decide) ?_
  obtain ⟨h117, hf⟩ := cG_some hf
  obtain ⟨σ118, e_σ118, hf⟩ := cL_some hf
  obtain ⟨n119, e_n119, hf⟩ := cL_some hf
  refine r_newI (N := 2) (t0 := 1) (ty := .int) ⟨by decide, by decide⟩ (by simp) rfl q_73 (Nat.le_of_ble_eq_true rfl) G w h117 ⟨Nat.le_of_ble_eq_true rfl, Nat.le_of_ble_eq_true rfl⟩ (dcs_get dec_X12_init_2 19 rfl) (fun H ad1 e120 w => ?_)
  rw [← e120 a0 k_a0.1] at hl
  rw [← e120 a0 k_a0.1]
  have k_a0 := And.intro (Nat.lt_of_lt_of_le k_a0.1 (by omega : n114 ≤ n119)) k_a0.2
  have k_n114 : n114 < n119 ∧ (kM n114).1 = 101 := ⟨by omega, by rw [eq_of_beq h117]⟩
  have w := Wa_nm e_n119 e_σ118 w
  generalize ad1 = ad at hl w ⊢
  clear e120
  obtain ⟨σ121, e_σ121, hf⟩ := cL_some hf
  refine r_putrF (k := 37) cls12 ctf12 fi_12_37.1 fi_12_37.2 rfl rfl (ctf12.1 37 fi_12_37.1) q_1045 (fun _ => rfl) (fun _ => rfl) hm.2.2 (G.gx w) w.1 k_a0.1 k_a0.2 (dcs_get dec_X12_init_2 20 rfl) (fun H locs w1 => ?_)
  have w := Wa_uP e_σ121 k_n114.1 w w1
  refine lv_aload_n G.1.1 G.1.2.1 (dcs_get dec_X12_init_2 21 rfl) rfl (lv_at hl 0 rfl) ?_
  refine lv_sipush (v := (260 : Int32)) G.1.1 G.1.2.1 (dcs_get dec_X12_init_2 22 rfl) (by decide) ?_
  obtain ⟨h122, hf⟩ := cG_some hf
  obtain ⟨σ123, e_σ123, hf⟩ := cL_some hf
  obtain ⟨n124, e_n124, hf⟩ := cL_some hf
  refine r_newI (N := 260) (t0 := 2) (ty := .boolean) ⟨by decide, by decide⟩ (by simp) rfl q_341 (Nat.le_of_ble_eq_true rfl) G w h122 ⟨Nat.le_of_ble_eq_true rfl, Nat.le_of_ble_eq_true rfl⟩ (dcs_get dec_X12_init_2 23 rfl) (fun H ad1 e125 w => ?_)
  rw [← e125 a0 k_a0.1] at hl
  rw [← e125 a0 k_a0.1]
  have k_a0 := And.intro (Nat.lt_of_lt_of_le k_a0.1 (by omega : n119 ≤ n124)) k_a0.2
  have k_n119 : n119 < n124 ∧ (kM n119).1 = 102 := ⟨by omega, by rw [eq_of_beq h122]⟩
  have w := Wa_nm e_n124 e_σ123 w
  generalize ad1 = ad at hl w ⊢
  clear e125
  obtain ⟨σ126, e_σ126, hf⟩ := cL_some hf
  refine r_putrF (k := 39) cls12 ctf12 fi_12_39.1 fi_12_39.2 rfl rfl (ctf12.1 39 fi_12_39.1) q_1047 (fun _ => rfl) (fun _ => rfl) hm.2.2 (G.gx w) w.1 k_a0.1 k_a0.2 (dcs_get dec_X12_init_2 24 rfl) (fun H locs w1 => ?_)
  have w := Wa_uP e_σ126 k_n119.1 w w1
  refine lv_aload_n G.1.1 G.1.2.1 (dcs_get dec_X12_init_2 25 rfl) rfl (lv_at hl 0 rfl) ?_
  refine lv_sipush (v := (260 : Int32)) G.1.1 G.1.2.1 (dcs_get dec_X12_init_2 26 rfl) (by decide) ?_
  obtain ⟨h127, hf⟩ := cG_some hf
  obtain ⟨σ128, e_σ128, hf⟩ := cL_some hf
  obtain ⟨n129, e_n129, hf⟩ := cL_some hf
  refine r_newI (N := 260) (t0 := 1) (ty := .int) ⟨by decide, by decide⟩ (by simp) rfl q_73 (Nat.le_of_ble_eq_true rfl) G w h127 ⟨Nat.le_of_ble_eq_true rfl, Nat.le_of_ble_eq_true rfl⟩ (dcs_get dec_X12_init_2 27 rfl) (fun H ad1 e130 w => ?_)
  rw [← e130 a0 k_a0.1] at hl
  rw [← e130 a0 k_a0.1]
  have k_a0 := And.intro (Nat.lt_of_lt_of_le k_a0.1 (by omega : n124 ≤ n129)) k_a0.2
  have k_n124 : n124 < n129 ∧ (kM n124).1 = 101 := ⟨by omega, by rw [eq_of_beq h127]⟩
  have w := Wa_nm e_n129 e_σ128 w
  generalize ad1 = ad at hl w ⊢
  clear e130
  obtain ⟨σ131, e_σ131, hf⟩ := cL_some hf
  refine r_putrF (k := 40) cls12 ctf12 fi_12_40.1 fi_12_40.2 rfl rfl (ctf12.1 40 fi_12_40.1) q_1048 (fun _ => rfl) (fun _ => rfl) hm.2.2 (G.gx w) w.1 k_a0.1 k_a0.2 (dcs_get dec_X12_init_2 28 rfl) (fun H locs w1 => ?_)
  have w := Wa_uP e_σ131 k_n124.1 w w1
  refine lv_aload_n G.1.1 G.1.2.1 (dcs_get dec_X12_init_2 29 rfl) rfl (lv_at hl 0 rfl) ?_
  refine lv_sipush (v := (260 : Int32)) G.1.1 G.1.2.1 (dcs_get dec_X12_init_2 30 rfl) (by decide) ?_
  obtain ⟨h132, hf⟩ := cG_some hf
  obtain ⟨σ133, e_σ133, hf⟩ := cL_some hf
  obtain ⟨n134, e_n134, hf⟩ := cL_some hf
  refine r_newI (N := 260) (t0 := 1) (ty := .int) ⟨by decide, by decide⟩ (by simp) rfl q_73 (Nat.le_of_ble_eq_true rfl) G w h132 ⟨Nat.le_of_ble_eq_true rfl, Nat.le_of_ble_eq_true rfl⟩ (dcs_get dec_X12_init_2 31 rfl) (fun H ad1 e135 w => ?_)
  rw [← e135 a0 k_a0.1] at hl
  rw [← e135 a0 k_a0.1]
  have k_a0 := And.intro (Nat.lt_of_lt_of_le k_a0.1 (by omega : n129 ≤ n134)) k_a0.2
  have k_n129 : n129 < n134 ∧ (kM n129).1 = 101 := ⟨by omega, by rw [eq_of_beq h132]⟩
  have w := Wa_nm e_n134 e_σ133 w
  generalize ad1 = ad at hl w ⊢
  clear e135
  obtain ⟨σ136, e_σ136, hf⟩ := cL_some hf
  refine r_putrF (k := 41) cls12 ctf12 fi_12_41.1 fi_12_41.2 rfl rfl (ctf12.1 41 fi_12_41.1) q_1049 (fun _ => rfl) (fun _ => rfl) hm.2.2 (G.gx w) w.1 k_a0.1 k_a0.2 (dcs_get dec_X12_init_2 32 rfl) (fun H locs w1 => ?_)
  have w := Wa_uP e_σ136 k_n129.1 w w1
  refine lv_aload_n G.1.1 G.1.2.1 (dcs_get dec_X12_init_2 33 rfl) rfl (lv_at hl 0 rfl) ?_
  refine lv_sipush (v := (260 : Int32)) G.1.1 G.1.2.1 (dcs_get dec_X12_init_2 34 rfl) (by decide) ?_
  obtain ⟨h137, hf⟩ := cG_some hf
  obtain ⟨σ138, e_σ138, hf⟩ := cL_some hf
  obtain ⟨n139, e_n139, hf⟩ := cL_some hf
  refine r_newI (N := 260) (t0 := 1) (ty := .int) ⟨by decide, by decide⟩ (by simp) rfl q_73 (Nat.le_of_ble_eq_true rfl) G w h137 ⟨Nat.le_of_ble_eq_true rfl, Nat.le_of_ble_eq_true rfl⟩ (dcs_get dec_X12_init_2 35 rfl) (fun H ad1 e140 w => ?_)
  rw [← e140 a0 k_a0.1] at hl
  rw [← e140 a0 k_a0.1]
  have k_a0 := And.intro (Nat.lt_of_lt_of_le k_a0.1 (by omega : n134 ≤ n139)) k_a0.2
  have k_n134 : n134 < n139 ∧ (kM n134).1 = 101 := ⟨by omega, by rw [eq_of_beq h137]⟩
  have w := Wa_nm e_n139 e_σ138 w
  generalize ad1 = ad at hl w ⊢
  clear e140
  obtain ⟨σ141, e_σ141, hf⟩ := cL_some hf
  refine r_putrF (k := 42) cls12 ctf12 fi_12_42.1 fi_12_42.2 rfl rfl (ctf12.1 42 fi_12_42.1) q_1050 (fun _ => rfl) (fun _ => rfl) hm.2.2 (G.gx w) w.1 k_a0.1 k_a0.2 (dcs_get dec_X12_init_2 36 rfl) (fun H locs w1 => ?_)
  have w := Wa_uP e_σ141 k_n134.1 w w1
  refine lv_aload_n G.1.1 G.1.2.1 (dcs_get dec_X12_init_2 37 rfl) rfl (lv_at hl 0 rfl) ?_
  refine lv_sipush (v := (260 : Int32)) G.1.1 G.1.2.1 (dcs_get dec_X12_init_2 38 rfl) (by decide) ?_
  obtain ⟨h142, hf⟩ := cG_some hf
  obtain ⟨σ143, e_σ143, hf⟩ := cL_some hf
  obtain ⟨n144, e_n144, hf⟩ := cL_some hf
  refine r_newI (N := 260) (t0 := 1) (ty := .int) ⟨by decide, by decide⟩ (by simp) rfl q_73 (Nat.le_of_ble_eq_true rfl) G w h142 ⟨Nat.le_of_ble_eq_true rfl, Nat.le_of_ble_eq_true rfl⟩ (dcs_get dec_X12_init_2 39 rfl) (fun H ad1 e145 w => ?_)
  rw [← e145 a0 k_a0.1] at hl
  rw [← e145 a0 k_a0.1]
  have k_a0 := And.intro (Nat.lt_of_lt_of_le k_a0.1 (by omega : n139 ≤ n144)) k_a0.2
  have k_n139 : n139 < n144 ∧ (kM n139).1 = 101 := ⟨by omega, by rw [eq_of_beq h142]⟩
  have w := Wa_nm e_n144 e_σ143 w
  generalize ad1 = ad at hl w ⊢
  clear e145
  obtain ⟨σ146, e_σ146, hf⟩ := cL_some hf
  refine r_putrF (k := 43) cls12 ctf12 fi_12_43.1 fi_12_43.2 rfl rfl (ctf12.1 43 fi_12_43.1) q_1051 (fun _ => rfl) (fun _ => rfl) hm.2.2 (G.gx w) w.1 k_a0.1 k_a0.2 (dcs_get dec_X12_init_3 0 rfl) (fun H locs w1 => ?_)
  have w := Wa_uP e_σ146 k_n139.1 w w1
  refine lv_aload_n G.1.1 G.1.2.1 (dcs_get dec_X12_init_3 1 rfl) rfl (lv_at hl 0 rfl) ?_
  refine lv_sipush (v := (840 : Int32)) G.1.1 G.1.2.1 (dcs_get dec_X12_init_3 2 rfl) (by decide) ?_
  obtain ⟨h147, hf⟩ := cG_some hf
  obtain ⟨σ148, e_σ148, hf⟩ := cL_some hf
  obtain ⟨n149, e_n149, hf⟩ := cL_some hf
  refine r_newI (N := 840) (t0 := 1) (ty := .int) ⟨by decide, by decide⟩ (by simp) rfl q_73 (Nat.le_of_ble_eq_true rfl) G w h147 ⟨Nat.le_of_ble_eq_true rfl, Nat.le_of_ble_eq_true rfl⟩ (dcs_get dec_X12_init_3 3 rfl) (fun H ad1 e150 w => ?_)
  rw [← e150 a0 k_a0.1] at hl
  rw [← e150 a0 k_a0.1]
  have k_a0 := And.intro (Nat.lt_of_lt_of_le k_a0.1 (by omega : n144 ≤ n149)) k_a0.2
  have k_n144 : n144 < n149 ∧ (kM n144).1 = 101 := ⟨by omega, by rw [eq_of_beq h147]⟩
  have w := Wa_nm e_n149 e_σ148 w
  generalize ad1 = ad at hl w ⊢
  clear e150
  obtain ⟨σ151, e_σ151, hf⟩ := cL_some hf
  refine r_putrF (k := 45) cls12 ctf12 fi_12_45.1 fi_12_45.2 rfl rfl (ctf12.1 45 fi_12_45.1) q_1053 (fun _ => rfl) (fun _ => rfl) hm.2.2 (G.gx w) w.1 k_a0.1 k_a0.2 (dcs_get dec_X12_init_3 4 rfl) (fun H locs w1 => ?_)
  have w := Wa_uP e_σ151 k_n144.1 w w1
  refine lv_aload_n G.1.1 G.1.2.1 (dcs_get dec_X12_init_3 5 rfl) rfl (lv_at hl 0 rfl) ?_
  refine lv_sipush (v := (840 : Int32)) G.1.1 G.1.2.1 (dcs_get dec_X12_init_3 6 rfl) (by decide) ?_
  obtain ⟨h152, hf⟩ := cG_some hf
  obtain ⟨σ153, e_σ153, hf⟩ := cL_some hf
  obtain ⟨n154, e_n154, hf⟩ := cL_some hf
  refine r_newI (N := 840) (t0 := 1) (ty := .int) ⟨by decide, by decide⟩ (by simp) rfl q_73 (Nat.le_of_ble_eq_true rfl) G w h152 ⟨Nat.le_of_ble_eq_true rfl, Nat.le_of_ble_eq_true rfl⟩ (dcs_get dec_X12_init_3 7 rfl) (fun H ad1 e155 w => ?_)
  rw [← e155 a0 k_a0.1] at hl
  rw [← e155 a0 k_a0.1]
  have k_a0 := And.intro (Nat.lt_of_lt_of_le k_a0.1 (by omega : n149 ≤ n154)) k_a0.2
  have k_n149 : n149 < n154 ∧ (kM n149).1 = 101 := ⟨by omega, by rw [eq_of_beq h152]⟩
  have w := Wa_nm e_n154 e_σ153 w
  generalize ad1 = ad at hl w ⊢
  clear e155
  obtain ⟨σ156, e_σ156, hf⟩ := cL_some hf
  refine r_putrF (k := 46) cls12 ctf12 fi_12_46.1 fi_12_46.2 rfl rfl (ctf12.1 46 fi_12_46.1) q_1054 (fun _ => rfl) (fun _ => rfl) hm.2.2 (G.gx w) w.1 k_a0.1 k_a0.2 (dcs_get dec_X12_init_3 8 rfl) (fun H locs w1 => ?_)
  have w := Wa_uP e_σ156 k_n149.1 w w1
  refine lv_aload_n G.1.1 G.1.2.1 (dcs_get dec_X12_init_3 9 rfl) rfl (lv_at hl 0 rfl) ?_
  refine lv_bipush (v := (64 : Int32)) G.1.1 G.1.2.1 (dcs_get dec_X12_init_3 10 rfl) (by decide) ?_
  obtain ⟨h157, hf⟩ := cG_some hf
  obtain ⟨σ158, e_σ158, hf⟩ := cL_some hf
  obtain ⟨n159, e_n159, hf⟩ := cL_some hf
  refine r_newI (N := 64) (t0 := 1) (ty := .int) ⟨by decide, by decide⟩ (by simp) rfl q_73 (Nat.le_of_ble_eq_true rfl) G w h157 ⟨Nat.le_of_ble_eq_true rfl, Nat.le_of_ble_eq_true rfl⟩ (dcs_get dec_X12_init_3 11 rfl) (fun H ad1 e160 w => ?_)
  rw [← e160 a0 k_a0.1] at hl
  rw [← e160 a0 k_a0.1]
  have k_a0 := And.intro (Nat.lt_of_lt_of_le k_a0.1 (by omega : n154 ≤ n159)) k_a0.2
  have k_n154 : n154 < n159 ∧ (kM n154).1 = 101 := ⟨by omega, by rw [eq_of_beq h157]⟩
  have w := Wa_nm e_n159 e_σ158 w
  generalize ad1 = ad at hl w ⊢
  clear e160
  obtain ⟨σ161, e_σ161, hf⟩ := cL_some hf
  refine r_putrF (k := 47) cls12 ctf12 fi_12_47.1 fi_12_47.2 rfl rfl (ctf12.1 47 fi_12_47.1) q_1055 (fun _ => rfl) (fun _ => rfl) hm.2.2 (G.gx w) w.1 k_a0.1 k_a0.2 (dcs_get dec_X12_init_3 12 rfl) (fun H locs w1 => ?_)
  have w := Wa_uP e_σ161 k_n154.1 w w1
  refine lv_aload_n G.1.1 G.1.2.1 (dcs_get dec_X12_init_3 13 rfl) rfl (lv_at hl 0 rfl) ?_
  refine lv_bipush (v := (6 : Int32)) G.1.1 G.1.2.1 (dcs_get dec_X12_init_3 14 rfl) (by decide) ?_
  obtain ⟨h162, hf⟩ := cG_some hf
  obtain ⟨σ163, e_σ163, hf⟩ := cL_some hf
  obtain ⟨n164, e_n164, hf⟩ := cL_some hf
  refine r_newI (N := 6) (t0 := 1) (ty := .int) ⟨by decide, by decide⟩ (by simp) rfl q_73 (Nat.le_of_ble_eq_true rfl) G w h162 ⟨Nat.le_of_ble_eq_true rfl, Nat.le_of_ble_eq_true rfl⟩ (dcs_get dec_X12_init_3 15 rfl) (fun H ad1 e165 w => ?_)
  rw [← e165 a0 k_a0.1] at hl
  rw [← e165 a0 k_a0.1]
  have k_a0 := And.intro (Nat.lt_of_lt_of_le k_a0.1 (by omega : n159 ≤ n164)) k_a0.2
  have k_n159 : n159 < n164 ∧ (kM n159).1 = 101 := ⟨by omega, by rw [eq_of_beq h162]⟩
  have w := Wa_nm e_n164 e_σ163 w
  generalize ad1 = ad at hl w ⊢
  clear e165
  obtain ⟨σ166, e_σ166, hf⟩ := cL_some hf
  refine r_putrF (k := 49) cls12 ctf12 fi_12_49.1 fi_12_49.2 rfl rfl (ctf12.1 49 fi_12_49.1) q_1057 (fun _ => rfl) (fun _ => rfl) hm.2.2 (G.gx w) w.1 k_a0.1 k_a0.2 (dcs_get dec_X12_init_3 16 rfl) (fun H locs w1 => ?_)
  have w := Wa_uP e_σ166 k_n159.1 w w1
  refine lv_aload_n G.1.1 G.1.2.1 (dcs_get dec_X12_init_3 17 rfl) rfl (lv_at hl 0 rfl) ?_
  refine lv_sipush (v := (400 : Int32)) G.1.1 G.1.2.1 (dcs_get dec_X12_init_3 18 rfl) (by decide) ?_
  obtain ⟨h167, hf⟩ := cG_some hf
  obtain ⟨σ168, e_σ168, hf⟩ := cL_some hf
  obtain ⟨n169, e_n169, hf⟩ := cL_some hf
  refine r_newI (N := 400) (t0 := 1) (ty := .int) ⟨by decide, by decide⟩ (by simp) rfl q_73 (Nat.le_of_ble_eq_true rfl) G w h167 ⟨Nat.le_of_ble_eq_true rfl, Nat.le_of_ble_eq_true rfl⟩ (dcs_get dec_X12_init_3 19 rfl) (fun H ad1 e170 w => ?_)
  rw [← e170 a0 k_a0.1] at hl
  rw [← e170 a0 k_a0.1]
  have k_a0 := And.intro (Nat.lt_of_lt_of_le k_a0.1 (by omega : n164 ≤ n169)) k_a0.2
  have k_n164 : n164 < n169 ∧ (kM n164).1 = 101 := ⟨by omega, by rw [eq_of_beq h167]⟩
  have w := Wa_nm e_n169 e_σ168 w
  generalize ad1 = ad at hl w ⊢
  clear e170
  obtain ⟨σ171, e_σ171, hf⟩ := cL_some hf
  refine r_putrF (k := 50) cls12 ctf12 fi_12_50.1 fi_12_50.2 rfl rfl (ctf12.1 50 fi_12_50.1) q_1058 (fun _ => rfl) (fun _ => rfl) hm.2.2 (G.gx w) w.1 k_a0.1 k_a0.2 (dcs_get dec_X12_init_3 20 rfl) (fun H locs w1 => ?_)
  have w := Wa_uP e_σ171 k_n164.1 w w1
  refine lv_aload_n G.1.1 G.1.2.1 (dcs_get dec_X12_init_3 21 rfl) rfl (lv_at hl 0 rfl) ?_
  refine lv_bipush (v := (6 : Int32)) G.1.1 G.1.2.1 (dcs_get dec_X12_init_3 22 rfl) (by decide) ?_
  obtain ⟨h172, hf⟩ := cG_some hf
  obtain ⟨σ173, e_σ173, hf⟩ := cL_some hf
  obtain ⟨n174, e_n174, hf⟩ := cL_some hf
  refine r_newI (N := 6) (t0 := 1) (ty := .int) ⟨by decide, by decide⟩ (by simp) rfl q_73 (Nat.le_of_ble_eq_true rfl) G w h172 ⟨Nat.le_of_ble_eq_true rfl, Nat.le_of_ble_eq_true rfl⟩ (dcs_get dec_X12_init_3 23 rfl) (fun H ad1 e175 w => ?_)
  rw [← e175 a0 k_a0.1] at hl
  rw [← e175 a0 k_a0.1]
  have k_a0 := And.intro (Nat.lt_of_lt_of_le k_a0.1 (by omega : n169 ≤ n174)) k_a0.2
  have k_n169 : n169 < n174 ∧ (kM n169).1 = 101 := ⟨by omega, by rw [eq_of_beq h172]⟩
  have w := Wa_nm e_n174 e_σ173 w
  generalize ad1 = ad at hl w ⊢
  clear e175
  obtain ⟨σ176, e_σ176, hf⟩ := cL_some hf
  refine r_putrF (k := 52) cls12 ctf12 fi_12_52.1 fi_12_52.2 rfl rfl (ctf12.1 52 fi_12_52.1) q_1060 (fun _ => rfl) (fun _ => rfl) hm.2.2 (G.gx w) w.1 k_a0.1 k_a0.2 (dcs_get dec_X12_init_3 24 rfl) (fun H locs w1 => ?_)
  have w := Wa_uP e_σ176 k_n169.1 w w1
  refine lv_aload_n G.1.1 G.1.2.1 (dcs_get dec_X12_init_3 25 rfl) rfl (lv_at hl 0 rfl) ?_
  refine lv_sipush (v := (380 : Int32)) G.1.1 G.1.2.1 (dcs_get dec_X12_init_3 26 rfl) (by decide) ?_
  obtain ⟨h177, hf⟩ := cG_some hf
  obtain ⟨σ178, e_σ178, hf⟩ := cL_some hf
  obtain ⟨n179, e_n179, hf⟩ := cL_some hf
  refine r_newI (N := 380) (t0 := 1) (ty := .int) ⟨by decide, by decide⟩ (by simp) rfl q_73 (Nat.le_of_ble_eq_true rfl) G w h177 ⟨Nat.le_of_ble_eq_true rfl, Nat.le_of_ble_eq_true rfl⟩ (dcs_get dec_X12_init_3 27 rfl) (fun H ad1 e180 w => ?_)
  rw [← e180 a0 k_a0.1] at hl
  rw [← e180 a0 k_a0.1]
  have k_a0 := And.intro (Nat.lt_of_lt_of_le k_a0.1 (by omega : n174 ≤ n179)) k_a0.2
  have k_n174 : n174 < n179 ∧ (kM n174).1 = 101 := ⟨by omega, by rw [eq_of_beq h177]⟩
  have w := Wa_nm e_n179 e_σ178 w
  generalize ad1 = ad at hl w ⊢
  clear e180
  obtain ⟨σ181, e_σ181, hf⟩ := cL_some hf
  refine r_putrF (k := 53) cls12 ctf12 fi_12_53.1 fi_12_53.2 rfl rfl (ctf12.1 53 fi_12_53.1) q_1061 (fun _ => rfl) (fun _ => rfl) hm.2.2 (G.gx w) w.1 k_a0.1 k_a0.2 (dcs_get dec_X12_init_3 28 rfl) (fun H locs w1 => ?_)
  have w := Wa_uP e_σ181 k_n174.1 w w1
  refine lv_aload_n G.1.1 G.1.2.1 (dcs_get dec_X12_init_3 29 rfl) rfl (lv_at hl 0 rfl) ?_
  refine lv_sipush (v := (380 : Int32)) G.1.1 G.1.2.1 (dcs_get dec_X12_init_3 30 rfl) (by decide) ?_
  obtain ⟨h182, hf⟩ := cG_some hf
  obtain ⟨σ183, e_σ183, hf⟩ := cL_some hf
  obtain ⟨n184, e_n184, hf⟩ := cL_some hf
  refine r_newI (N := 380) (t0 := 1) (ty := .int) ⟨by decide, by decide⟩ (by simp) rfl q_73 (Nat.le_of_ble_eq_true rfl) G w h182 ⟨Nat.le_of_ble_eq_true rfl, Nat.le_of_ble_eq_true rfl⟩ (dcs_get dec_X12_init_3 31 rfl) (fun H ad1 e185 w => ?_)
  rw [← e185 a0 k_a0.1] at hl
  rw [← e185 a0 k_a0.1]
  have k_a0 := And.intro (Nat.lt_of_lt_of_le k_a0.1 (by omega : n179 ≤ n184)) k_a0.2
  have k_n179 : n179 < n184 ∧ (kM n179).1 = 101 := ⟨by omega, by rw [eq_of_beq h182]⟩
  have w := Wa_nm e_n184 e_σ183 w
  generalize ad1 = ad at hl w ⊢
  clear e185
  obtain ⟨σ186, e_σ186, hf⟩ := cL_some hf
  refine r_putrF (k := 54) cls12 ctf12 fi_12_54.1 fi_12_54.2 rfl rfl (ctf12.1 54 fi_12_54.1) q_1062 (fun _ => rfl) (fun _ => rfl) hm.2.2 (G.gx w) w.1 k_a0.1 k_a0.2 (dcs_get dec_X12_init_3 32 rfl) (fun H locs w1 => ?_)
  have w := Wa_uP e_σ186 k_n179.1 w w1
  refine lv_aload_n G.1.1 G.1.2.1 (dcs_get dec_X12_init_3 33 rfl) rfl (lv_at hl 0 rfl) ?_
  refine lv_sipush (v := (15200 : Int32)) G.1.1 G.1.2.1 (dcs_get dec_X12_init_3 34 rfl) (by decide) ?_
  obtain ⟨h187, hf⟩ := cG_some hf
  obtain ⟨σ188, e_σ188, hf⟩ := cL_some hf
  obtain ⟨n189, e_n189, hf⟩ := cL_some hf
  refine r_newI (N := 15200) (t0 := 1) (ty := .int) ⟨by decide, by decide⟩ (by simp) rfl q_73 (Nat.le_of_ble_eq_true rfl) G w h187 ⟨Nat.le_of_ble_eq_true rfl, Nat.le_of_ble_eq_true rfl⟩ (dcs_get dec_X12_init_3 35 rfl) (fun H ad1 e190 w => ?_)
  rw [← e190 a0 k_a0.1] at hl
  rw [← e190 a0 k_a0.1]
  have k_a0 := And.intro (Nat.lt_of_lt_of_le k_a0.1 (by omega : n184 ≤ n189)) k_a0.2
  have k_n184 : n184 < n189 ∧ (kM n184).1 = 101 := ⟨by omega, by rw [eq_of_beq h187]⟩
  have w := Wa_nm e_n189 e_σ188 w
  generalize ad1 = ad at hl w ⊢
  clear e190
  obtain ⟨σ191, e_σ191, hf⟩ := cL_some hf
  refine r_putrF (k := 58) cls12 ctf12 fi_12_58.1 fi_12_58.2 rfl rfl (ctf12.1 58 fi_12_58.1) q_1066 (fun _ => rfl) (fun _ => rfl) hm.2.2 (G.gx w) w.1 k_a0.1 k_a0.2 (dcs_get dec_X12_init_3 36 rfl) (fun H locs w1 => ?_)
  have w := Wa_uP e_σ191 k_n184.1 w w1
  refine lv_aload_n G.1.1 G.1.2.1 (dcs_get dec_X12_init_3 37 rfl) rfl (lv_at hl 0 rfl) ?_
  refine lv_bipush (v := (64 : Int32)) G.1.1 G.1.2.1 (dcs_get dec_X12_init_3 38 rfl) (by decide) ?_
  obtain ⟨h192, hf⟩ := cG_some hf
  obtain ⟨σ193, e_σ193, hf⟩ := cL_some hf
  obtain ⟨n194, e_n194, hf⟩ := cL_some hf
  refine r_newI (N := 64) (t0 := 1) (ty := .int) ⟨by decide, by decide⟩ (by simp) rfl q_73 (Nat.le_of_ble_eq_true rfl) G w h192 ⟨Nat.le_of_ble_eq_true rfl, Nat.le_of_ble_eq_true rfl⟩ (dcs_get dec_X12_init_3 39 rfl) (fun H ad1 e195 w => ?_)
  rw [← e195 a0 k_a0.1] at hl
  rw [← e195 a0 k_a0.1]
  have k_a0 := And.intro (Nat.lt_of_lt_of_le k_a0.1 (by omega : n189 ≤ n194)) k_a0.2
  have k_n189 : n189 < n194 ∧ (kM n189).1 = 101 := ⟨by omega, by rw [eq_of_beq h192]⟩
  have w := Wa_nm e_n194 e_σ193 w
  generalize ad1 = ad at hl w ⊢
  clear e195
  obtain ⟨σ196, e_σ196, hf⟩ := cL_some hf
  refine r_putrF (k := 59) cls12 ctf12 fi_12_59.1 fi_12_59.2 rfl rfl (ctf12.1 59 fi_12_59.1) q_1067 (fun _ => rfl) (fun _ => rfl) hm.2.2 (G.gx w) w.1 k_a0.1 k_a0.2 (dcs_get dec_X12_init_4 0 rfl) (fun H locs w1 => ?_)
  have w := Wa_uP e_σ196 k_n189.1 w w1
  refine lv_aload_n G.1.1 G.1.2.1 (dcs_get dec_X12_init_4 1 rfl) rfl (lv_at hl 0 rfl) ?_
  refine lv_bipush (v := (64 : Int32)) G.1.1 G.1.2.1 (dcs_get dec_X12_init_4 2 rfl) (by decide) ?_
  obtain ⟨h197, hf⟩ := cG_some hf
  obtain ⟨σ198, e_σ198, hf⟩ := cL_some hf
  obtain ⟨n199, e_n199, hf⟩ := cL_some hf
  refine r_newI (N := 64) (t0 := 1) (ty := .int) ⟨by decide, by decide⟩ (by simp) rfl q_73 (Nat.le_of_ble_eq_true rfl) G w h197 ⟨Nat.le_of_ble_eq_true rfl, Nat.le_of_ble_eq_true rfl⟩ (dcs_get dec_X12_init_4 3 rfl) (fun H ad1 e200 w => ?_)
  rw [← e200 a0 k_a0.1] at hl
  rw [← e200 a0 k_a0.1]
  have k_a0 := And.intro (Nat.lt_of_lt_of_le k_a0.1 (by omega : n194 ≤ n199)) k_a0.2
  have k_n194 : n194 < n199 ∧ (kM n194).1 = 101 := ⟨by omega, by rw [eq_of_beq h197]⟩
  have w := Wa_nm e_n199 e_σ198 w
  generalize ad1 = ad at hl w ⊢
  clear e200
  obtain ⟨σ201, e_σ201, hf⟩ := cL_some hf
  refine r_putrF (k := 60) cls12 ctf12 fi_12_60.1 fi_12_60.2 rfl rfl (ctf12.1 60 fi_12_60.1) q_1068 (fun _ => rfl) (fun _ => rfl) hm.2.2 (G.gx w) w.1 k_a0.1 k_a0.2 (dcs_get dec_X12_init_4 4 rfl) (fun H locs w1 => ?_)
  have w := Wa_uP e_σ201 k_n194.1 w w1
  refine lv_aload_n G.1.1 G.1.2.1 (dcs_get dec_X12_init_4 5 rfl) rfl (lv_at hl 0 rfl) ?_
  refine lv_iconst (v := (3 : Int32)) G.1.1 G.1.2.1 (dcs_get dec_X12_init_4 6 rfl) (by decide) ?_
  obtain ⟨h202, hf⟩ := cG_some hf
  obtain ⟨σ203, e_σ203, hf⟩ := cL_some hf
  obtain ⟨n204, e_n204, hf⟩ := cL_some hf
  refine r_newI (N := 3) (t0 := 1) (ty := .int) ⟨by decide, by decide⟩ (by simp) rfl q_73 (Nat.le_of_ble_eq_true rfl) G w h202 ⟨Nat.le_of_ble_eq_true rfl, Nat.le_of_ble_eq_true rfl⟩ (dcs_get dec_X12_init_4 7 rfl) (fun H ad1 e205 w => ?_)
  rw [← e205 a0 k_a0.1] at hl
  rw [← e205 a0 k_a0.1]
  have k_a0 := And.intro (Nat.lt_of_lt_of_le k_a0.1 (by omega : n199 ≤ n204)) k_a0.2
  have k_n199 : n199 < n204 ∧ (kM n199).1 = 101 := ⟨by omega, by rw [eq_of_beq h202]⟩
  have w := Wa_nm e_n204 e_σ203 w
  generalize ad1 = ad at hl w ⊢
  clear e205
  obtain ⟨σ206, e_σ206, hf⟩ := cL_some hf
  refine r_putrF (k := 61) cls12 ctf12 fi_12_61.1 fi_12_61.2 rfl rfl (ctf12.1 61 fi_12_61.1) q_1069 (fun _ => rfl) (fun _ => rfl) hm.2.2 (G.gx w) w.1 k_a0.1 k_a0.2 (dcs_get dec_X12_init_4 8 rfl) (fun H locs w1 => ?_)
  have w := Wa_uP e_σ206 k_n199.1 w w1
  refine lv_aload_n G.1.1 G.1.2.1 (dcs_get dec_X12_init_4 9 rfl) rfl (lv_at hl 0 rfl) ?_
  refine lv_bipush (v := (20 : Int32)) G.1.1 G.1.2.1 (dcs_get dec_X12_init_4 10 rfl) (by decide) ?_
  obtain ⟨h207, hf⟩ := cG_some hf
  obtain ⟨σ208, e_σ208, hf⟩ := cL_some hf
  obtain ⟨n209, e_n209, hf⟩ := cL_some hf
  refine r_newI (N := 20) (t0 := 1) (ty := .int) ⟨by decide, by decide⟩ (by simp) rfl q_73 (Nat.le_of_ble_eq_true rfl) G w h207 ⟨Nat.le_of_ble_eq_true rfl, Nat.le_of_ble_eq_true rfl⟩ (dcs_get dec_X12_init_4 11 rfl) (fun H ad1 e210 w => ?_)
  rw [← e210 a0 k_a0.1] at hl
  rw [← e210 a0 k_a0.1]
  have k_a0 := And.intro (Nat.lt_of_lt_of_le k_a0.1 (by omega : n204 ≤ n209)) k_a0.2
  have k_n204 : n204 < n209 ∧ (kM n204).1 = 101 := ⟨by omega, by rw [eq_of_beq h207]⟩
  have w := Wa_nm e_n209 e_σ208 w
  generalize ad1 = ad at hl w ⊢
  clear e210
  obtain ⟨σ211, e_σ211, hf⟩ := cL_some hf
  refine r_putrF (k := 64) cls12 ctf12 fi_12_64.1 fi_12_64.2 rfl rfl (ctf12.1 64 fi_12_64.1) q_1072 (fun _ => rfl) (fun _ => rfl) hm.2.2 (G.gx w) w.1 k_a0.1 k_a0.2 (dcs_get dec_X12_init_4 12 rfl) (fun H locs w1 => ?_)
  have w := Wa_uP e_σ211 k_n204.1 w w1
  refine lv_aload_n G.1.1 G.1.2.1 (dcs_get dec_X12_init_4 13 rfl) rfl (lv_at hl 0 rfl) ?_
  refine lv_bipush (v := (20 : Int32)) G.1.1 G.1.2.1 (dcs_get dec_X12_init_4 14 rfl) (by decide) ?_
  obtain ⟨h212, hf⟩ := cG_some hf
  obtain ⟨σ213, e_σ213, hf⟩ := cL_some hf
  obtain ⟨n214, e_n214, hf⟩ := cL_some hf
  refine r_newI (N := 20) (t0 := 1) (ty := .int) ⟨by decide, by decide⟩ (by simp) rfl q_73 (Nat.le_of_ble_eq_true rfl) G w h212 ⟨Nat.le_of_ble_eq_true rfl, Nat.le_of_ble_eq_true rfl⟩ (dcs_get dec_X12_init_4 15 rfl) (fun H ad1 e215 w => ?_)
  rw [← e215 a0 k_a0.1] at hl
  rw [← e215 a0 k_a0.1]
  have k_a0 := And.intro (Nat.lt_of_lt_of_le k_a0.1 (by omega : n209 ≤ n214)) k_a0.2
  have k_n209 : n209 < n214 ∧ (kM n209).1 = 101 := ⟨by omega, by rw [eq_of_beq h212]⟩
  have w := Wa_nm e_n214 e_σ213 w
  generalize ad1 = ad at hl w ⊢
  clear e215
  obtain ⟨σ216, e_σ216, hf⟩ := cL_some hf
  refine r_putrF (k := 65) cls12 ctf12 fi_12_65.1 fi_12_65.2 rfl rfl (ctf12.1 65 fi_12_65.1) q_1073 (fun _ => rfl) (fun _ => rfl) hm.2.2 (G.gx w) w.1 k_a0.1 k_a0.2 (dcs_get dec_X12_init_4 16 rfl) (fun H locs w1 => ?_)
  have w := Wa_uP e_σ216 k_n209.1 w w1
  refine lv_aload_n G.1.1 G.1.2.1 (dcs_get dec_X12_init_4 17 rfl) rfl (lv_at hl 0 rfl) ?_
  refine lv_bipush (v := (20 : Int32)) G.1.1 G.1.2.1 (dcs_get dec_X12_init_4 18 rfl) (by decide) ?_
  obtain ⟨h217, hf⟩ := cG_some hf
  obtain ⟨σ218, e_σ218, hf⟩ := cL_some hf
  obtain ⟨n219, e_n219, hf⟩ := cL_some hf
  refine r_newI (N := 20) (t0 := 1) (ty := .int) ⟨by decide, by decide⟩ (by simp) rfl q_73 (Nat.le_of_ble_eq_true rfl) G w h217 ⟨Nat.le_of_ble_eq_true rfl, Nat.le_of_ble_eq_true rfl⟩ (dcs_get dec_X12_init_4 19 rfl) (fun H ad1 e220 w => ?_)
  rw [← e220 a0 k_a0.1] at hl
  rw [← e220 a0 k_a0.1]
  have k_a0 := And.intro (Nat.lt_of_lt_of_le k_a0.1 (by omega : n214 ≤ n219)) k_a0.2
  have k_n214 : n214 < n219 ∧ (kM n214).1 = 101 := ⟨by omega, by rw [eq_of_beq h217]⟩
  have w := Wa_nm e_n219 e_σ218 w
  generalize ad1 = ad at hl w ⊢
  clear e220
  obtain ⟨σ221, e_σ221, hf⟩ := cL_some hf
  refine r_putrF (k := 66) cls12 ctf12 fi_12_66.1 fi_12_66.2 rfl rfl (ctf12.1 66 fi_12_66.1) q_1074 (fun _ => rfl) (fun _ => rfl) hm.2.2 (G.gx w) w.1 k_a0.1 k_a0.2 (dcs_get dec_X12_init_4 20 rfl) (fun H locs w1 => ?_)
  have w := Wa_uP e_σ221 k_n214.1 w w1
  refine lv_aload_n G.1.1 G.1.2.1 (dcs_get dec_X12_init_4 21 rfl) rfl (lv_at hl 0 rfl) ?_
  refine lv_iconst (v := (3 : Int32)) G.1.1 G.1.2.1 (dcs_get dec_X12_init_4 22 rfl) (by decide) ?_
  obtain ⟨h222, hf⟩ := cG_some hf
  obtain ⟨σ223, e_σ223, hf⟩ := cL_some hf
  obtain ⟨n224, e_n224, hf⟩ := cL_some hf
  refine r_newI (N := 3) (t0 := 2) (ty := .boolean) ⟨by decide, by decide⟩ (by simp) rfl q_341 (Nat.le_of_ble_eq_true rfl) G w h222 ⟨Nat.le_of_ble_eq_true rfl, Nat.le_of_ble_eq_true rfl⟩ (dcs_get dec_X12_init_4 23 rfl) (fun H ad1 e225 w => ?_)
  rw [← e225 a0 k_a0.1] at hl
  rw [← e225 a0 k_a0.1]
  have k_a0 := And.intro (Nat.lt_of_lt_of_le k_a0.1 (by omega : n219 ≤ n224)) k_a0.2
  have k_n219 : n219 < n224 ∧ (kM n219).1 = 102 := ⟨by omega, by rw [eq_of_beq h222]⟩
  have w := Wa_nm e_n224 e_σ223 w
  generalize ad1 = ad at hl w ⊢
  clear e225
  obtain ⟨σ226, e_σ226, hf⟩ := cL_some hf
  refine r_putrF (k := 67) cls12 ctf12 fi_12_67.1 fi_12_67.2 rfl rfl (ctf12.1 67 fi_12_67.1) q_1075 (fun _ => rfl) (fun _ => rfl) hm.2.2 (G.gx w) w.1 k_a0.1 k_a0.2 (dcs_get dec_X12_init_4 24 rfl) (fun H locs w1 => ?_)
  have w := Wa_uP e_σ226 k_n219.1 w w1
  refine lv_aload_n G.1.1 G.1.2.1 (dcs_get dec_X12_init_4 25 rfl) rfl (lv_at hl 0 rfl) ?_
  refine lv_sipush (v := (1140 : Int32)) G.1.1 G.1.2.1 (dcs_get dec_X12_init_4 26 rfl) (by decide) ?_
  obtain ⟨h227, hf⟩ := cG_some hf
  obtain ⟨σ228, e_σ228, hf⟩ := cL_some hf
  obtain ⟨n229, e_n229, hf⟩ := cL_some hf
  refine r_newI (N := 1140) (t0 := 1) (ty := .int) ⟨by decide, by decide⟩ (by simp) rfl q_73 (Nat.le_of_ble_eq_true rfl) G w h227 ⟨Nat.le_of_ble_eq_true rfl, Nat.le_of_ble_eq_true rfl⟩ (dcs_get dec_X12_init_4 27 rfl) (fun H ad1 e230 w => ?_)
  rw [← e230 a0 k_a0.1] at hl
  rw [← e230 a0 k_a0.1]
  have k_a0 := And.intro (Nat.lt_of_lt_of_le k_a0.1 (by omega : n224 ≤ n229)) k_a0.2
  have k_n224 : n224 < n229 ∧ (kM n224).1 = 101 := ⟨by omega, by rw [eq_of_beq h227]⟩
  have w := Wa_nm e_n229 e_σ228 w
  generalize ad1 = ad at hl w ⊢
  clear e230
  obtain ⟨σ231, e_σ231, hf⟩ := cL_some hf
  refine r_putrF (k := 68) cls12 ctf12 fi_12_68.1 fi_12_68.2 rfl rfl (ctf12.1 68 fi_12_68.1) q_1076 (fun _ => rfl) (fun _ => rfl) hm.2.2 (G.gx w) w.1 k_a0.1 k_a0.2 (dcs_get dec_X12_init_4 28 rfl) (fun H locs w1 => ?_)
  have w := Wa_uP e_σ231 k_n224.1 w w1
  refine lv_aload_n G.1.1 G.1.2.1 (dcs_get dec_X12_init_4 29 rfl) rfl (lv_at hl 0 rfl) ?_
  obtain ⟨z232, e_z232, ok_z232, hf⟩ := cR_some hf
  have k_z232 := okr_in ok_z232
  refine r_getr (k := 31) cls12 fi_12_31.1 fi_12_31.2 q_1039 (G.gx w) w.1 k_a0.1 k_a0.2 e_z232 (dcs_get dec_X12_init_4 30 rfl) ?_
  refine lv_iconst (v := (0 : Int32)) G.1.1 G.1.2.1 (dcs_get dec_X12_init_4 31 rfl) (by decide) ?_
  refine lv_iconst (v := (1 : Int32)) G.1.1 G.1.2.1 (dcs_get dec_X12_init_4 32 rfl) (by decide) ?_
  obtain ⟨h233, hf⟩ := cG_some hf
  obtain ⟨σ234, e_σ234, hf⟩ := cL_some hf
  refine r_iast (G.gx w) w.1 k_z232.1 k_z232.2 h233 (dcs_get dec_X12_init_4 33 rfl) (fun H locs w1 => ?_)
  have w := Wa_uI e_σ234 w w1
  refine lv_aload_n G.1.1 G.1.2.1 (dcs_get dec_X12_init_4 34 rfl) rfl (lv_at hl 0 rfl) ?_
  obtain ⟨z235, e_z235, ok_z235, hf⟩ := cR_some hf
  have k_z235 := okr_in ok_z235
  refine r_getr (k := 9) cls12 fi_12_9.1 fi_12_9.2 q_1017 (G.gx w) w.1 k_a0.1 k_a0.2 e_z235 (dcs_get dec_X12_init_4 35 rfl) ?_
  refine lv_iconst (v := (0 : Int32)) G.1.1 G.1.2.1 (dcs_get dec_X12_init_4 36 rfl) (by decide) ?_
  refine lv_bipush (v := (104 : Int32)) G.1.1 G.1.2.1 (dcs_get dec_X12_init_4 37 rfl) (by decide) ?_
  refine lv_bipush (v := (105 : Int32)) G.1.1 G.1.2.1 (dcs_get dec_X12_init_4 38 rfl) (by decide) ?_
  refine lv_bipush (v := (108 : Int32)) G.1.1 G.1.2.1 (dcs_get dec_X12_init_4 39 rfl) (by decide) ?_
  refine lv_bipush (v := (108 : Int32)) G.1.1 G.1.2.1 (dcs_get dec_X12_init_5 0 rfl) (by decide) ?_
  refine lv_iconst (v := (0 : Int32)) G.1.1 G.1.2.1 (dcs_get dec_X12_init_5 1 rfl) (by decide) ?_
  refine lv_iconst (v := (0 : Int32)) G.1.1 G.1.2.1 (dcs_get dec_X12_init_5 2 rfl) (by decide) ?_
  refine lv_iconst (v := (0 : Int32)) G.1.1 G.1.2.1 (dcs_get dec_X12_init_5 3 rfl) (by decide) ?_
  obtain ⟨h236, hf⟩ := cG_some hf
  have h236 := eq_of_beq h236
  rw [h236] at w
  rw [h236] at k_a0
  rw [h236] at k_n224
  rw [h236] at k_z232
  rw [h236] at k_z235
  obtain ⟨v238, h237, hf⟩ := cB_some hf
  refine a_l (k_S (As := [.int (104 : Int32), .int (105 : Int32), .int (108 : Int32), .int (108 : Int32), .int (0 : Int32), .int (0 : Int32), .int (0 : Int32)]) (rest := [.int (0 : Int32), .ref (ad z235)]) lb_X12_word q_991 q_990 (C_X12_word w.2.1 (104 : Int32) (105 : Int32) (108 : Int32) (108 : Int32) (0 : Int32) (0 : Int32) (0 : Int32) σ234 h237 ) ⟨Nat.le_of_ble_eq_true rfl, Nat.le_of_ble_eq_true rfl⟩ (G.gx w) w.1 rfl rfl hl.1 (Nat.le_of_ble_eq_true rfl) (dcs_get dec_X12_init_5 4 rfl) ⟨Nat.le_of_ble_eq_true rfl, Nat.le_of_ble_eq_true rfl⟩) (G.gx w) w.1 (fun H locs w1 => ?_)
  have w := Wa_same w w1
  obtain ⟨h239, hf⟩ := cG_some hf
  obtain ⟨σ240, e_σ240, hf⟩ := cL_some hf
  refine r_last (G.gx w) w.1 k_z235.1 k_z235.2 h239 (dcs_get dec_X12_init_5 5 rfl) (fun H locs w1 => ?_)
  have w := Wa_uJ e_σ240 w w1
  refine lv_aload_n G.1.1 G.1.2.1 (dcs_get dec_X12_init_5 6 rfl) rfl (lv_at hl 0 rfl) ?_
  obtain ⟨z241, e_z241, ok_z241, hf⟩ := cR_some hf
  have k_z241 := okr_in ok_z241
  refine r_getr (k := 9) cls12 fi_12_9.1 fi_12_9.2 q_1017 (G.gx w) w.1 k_a0.1 k_a0.2 e_z241 (dcs_get dec_X12_init_5 7 rfl) ?_
  refine lv_iconst (v := (1 : Int32)) G.1.1 G.1.2.1 (dcs_get dec_X12_init_5 8 rfl) (by decide) ?_
  refine lv_bipush (v := (110 : Int32)) G.1.1 G.1.2.1 (dcs_get dec_X12_init_5 9 rfl) (by decide) ?_
  refine lv_bipush (v := (101 : Int32)) G.1.1 G.1.2.1 (dcs_get dec_X12_init_5 10 rfl) (by decide) ?_
  refine lv_bipush (v := (119 : Int32)) G.1.1 G.1.2.1 (dcs_get dec_X12_init_5 11 rfl) (by decide) ?_
  refine lv_bipush (v := (115 : Int32)) G.1.1 G.1.2.1 (dcs_get dec_X12_init_5 12 rfl) (by decide) ?_
  refine lv_iconst (v := (0 : Int32)) G.1.1 G.1.2.1 (dcs_get dec_X12_init_5 13 rfl) (by decide) ?_
  refine lv_iconst (v := (0 : Int32)) G.1.1 G.1.2.1 (dcs_get dec_X12_init_5 14 rfl) (by decide) ?_
  refine lv_iconst (v := (0 : Int32)) G.1.1 G.1.2.1 (dcs_get dec_X12_init_5 15 rfl) (by decide) ?_
  obtain ⟨v243, h242, hf⟩ := cB_some hf
  refine a_l (k_S (As := [.int (110 : Int32), .int (101 : Int32), .int (119 : Int32), .int (115 : Int32), .int (0 : Int32), .int (0 : Int32), .int (0 : Int32)]) (rest := [.int (1 : Int32), .ref (ad z241)]) lb_X12_word q_991 q_990 (C_X12_word w.2.1 (110 : Int32) (101 : Int32) (119 : Int32) (115 : Int32) (0 : Int32) (0 : Int32) (0 : Int32) σ240 h242 ) ⟨Nat.le_of_ble_eq_true rfl, Nat.le_of_ble_eq_true rfl⟩ (G.gx w) w.1 rfl rfl hl.1 (Nat.le_of_ble_eq_true rfl) (dcs_get dec_X12_init_5 16 rfl) ⟨Nat.le_of_ble_eq_true rfl, Nat.le_of_ble_eq_true rfl⟩) (G.gx w) w.1 (fun H locs w1 => ?_)
  have w := Wa_same w w1
  obtain ⟨h244, hf⟩ := cG_some hf
  obtain ⟨σ245, e_σ245, hf⟩ := cL_some hf
  refine r_last (G.gx w) w.1 k_z241.1 k_z241.2 h244 (dcs_get dec_X12_init_5 17 rfl) (fun H locs w1 => ?_)
  have w := Wa_uJ e_σ245 w w1
  refine lv_aload_n G.1.1 G.1.2.1 (dcs_get dec_X12_init_5 18 rfl) rfl (lv_at hl 0 rfl) ?_
  obtain ⟨z246, e_z246, ok_z246, hf⟩ := cR_some hf
  have k_z246 := okr_in ok_z246
  refine r_getr (k := 9) cls12 fi_12_9.1 fi_12_9.2 q_1017 (G.gx w) w.1 k_a0.1 k_a0.2 e_z246 (dcs_get dec_X12_init_5 19 rfl) ?_
  refine lv_iconst (v := (2 : Int32)) G.1.1 G.1.2.1 (dcs_get dec_X12_init_5 20 rfl) (by decide) ?_
  refine lv_bipush (v := (97 : Int32)) G.1.1 G.1.2.1 (dcs_get dec_X12_init_5 21 rfl) (by decide) ?_
  refine lv_bipush (v := (116 : Int32)) G.1.1 G.1.2.1 (dcs_get dec_X12_init_5 22 rfl) (by decide) ?_
  refine lv_iconst (v := (0 : Int32)) G.1.1 G.1.2.1 (dcs_get dec_X12_init_5 23 rfl) (by decide) ?_
  refine lv_iconst (v := (0 : Int32)) G.1.1 G.1.2.1 (dcs_get dec_X12_init_5 24 rfl) (by decide) ?_
  refine lv_iconst (v := (0 : Int32)) G.1.1 G.1.2.1 (dcs_get dec_X12_init_5 25 rfl) (by decide) ?_
  refine lv_iconst (v := (0 : Int32)) G.1.1 G.1.2.1 (dcs_get dec_X12_init_5 26 rfl) (by decide) ?_
  refine lv_iconst (v := (0 : Int32)) G.1.1 G.1.2.1 (dcs_get dec_X12_init_5 27 rfl) (by decide) ?_
  obtain ⟨v248, h247, hf⟩ := cB_some hf
  refine a_l (k_S (As := [.int (97 : Int32), .int (116 : Int32), .int (0 : Int32), .int (0 : Int32), .int (0 : Int32), .int (0 : Int32), .int (0 : Int32)]) (rest := [.int (2 : Int32), .ref (ad z246)]) lb_X12_word q_991 q_990 (C_X12_word w.2.1 (97 : Int32) (116 : Int32) (0 : Int32) (0 : Int32) (0 : Int32) (0 : Int32) (0 : Int32) σ245 h247 ) ⟨Nat.le_of_ble_eq_true rfl, Nat.le_of_ble_eq_true rfl⟩ (G.gx w) w.1 rfl rfl hl.1 (Nat.le_of_ble_eq_true rfl) (dcs_get dec_X12_init_5 28 rfl) ⟨Nat.le_of_ble_eq_true rfl, Nat.le_of_ble_eq_true rfl⟩) (G.gx w) w.1 (fun H locs w1 => ?_)
  have w := Wa_same w w1
  obtain ⟨h249, hf⟩ := cG_some hf
  obtain ⟨σ250, e_σ250, hf⟩ := cL_some hf
  refine r_last (G.gx w) w.1 k_z246.1 k_z246.2 h249 (dcs_get dec_X12_init_5 29 rfl) (fun H locs w1 => ?_)
  have w := Wa_uJ e_σ250 w w1
  refine lv_aload_n G.1.1 G.1.2.1 (dcs_get dec_X12_init_5 30 rfl) rfl (lv_at hl 0 rfl) ?_
  obtain ⟨z251, e_z251, ok_z251, hf⟩ := cR_some hf
  have k_z251 := okr_in ok_z251
  refine r_getr (k := 9) cls12 fi_12_9.1 fi_12_9.2 q_1017 (G.gx w) w.1 k_a0.1 k_a0.2 e_z251 (dcs_get dec_X12_init_5 31 rfl) ?_
  refine lv_iconst (v := (3 : Int32)) G.1.1 G.1.2.1 (dcs_get dec_X12_init_5 32 rfl) (by decide) ?_
  refine lv_bipush (v := (104 : Int32)) G.1.1 G.1.2.1 (dcs_get dec_X12_init_5 33 rfl) (by decide) ?_
  refine lv_bipush (v := (101 : Int32)) G.1.1 G.1.2.1 (dcs_get dec_X12_init_5 34 rfl) (by decide) ?_
  refine lv_bipush (v := (97 : Int32)) G.1.1 G.1.2.1 (dcs_get dec_X12_init_5 35 rfl) (by decide) ?_
  refine lv_bipush (v := (114 : Int32)) G.1.1 G.1.2.1 (dcs_get dec_X12_init_5 36 rfl) (by decide) ?_
  refine lv_bipush (v := (115 : Int32)) G.1.1 G.1.2.1 (dcs_get dec_X12_init_5 37 rfl) (by decide) ?_
  refine lv_iconst (v := (0 : Int32)) G.1.1 G.1.2.1 (dcs_get dec_X12_init_5 38 rfl) (by decide) ?_
  refine lv_iconst (v := (0 : Int32)) G.1.1 G.1.2.1 (dcs_get dec_X12_init_5 39 rfl) (by decide) ?_
  obtain ⟨v253, h252, hf⟩ := cB_some hf
  refine a_l (k_S (As := [.int (104 : Int32), .int (101 : Int32), .int (97 : Int32), .int (114 : Int32), .int (115 : Int32), .int (0 : Int32), .int (0 : Int32)]) (rest := [.int (3 : Int32), .ref (ad z251)]) lb_X12_word q_991 q_990 (C_X12_word w.2.1 (104 : Int32) (101 : Int32) (97 : Int32) (114 : Int32) (115 : Int32) (0 : Int32) (0 : Int32) σ250 h252 ) ⟨Nat.le_of_ble_eq_true rfl, Nat.le_of_ble_eq_true rfl⟩ (G.gx w) w.1 rfl rfl hl.1 (Nat.le_of_ble_eq_true rfl) (dcs_get dec_X12_init_6 0 rfl) ⟨Nat.le_of_ble_eq_true rfl, Nat.le_of_ble_eq_true rfl⟩) (G.gx w) w.1 (fun H locs w1 => ?_)
  have w := Wa_same w w1
  obtain ⟨h254, hf⟩ := cG_some hf
  obtain ⟨σ255, e_σ255, hf⟩ := cL_some hf
  refine r_last (G.gx w) w.1 k_z251.1 k_z251.2 h254 (dcs_get dec_X12_init_6 1 rfl) (fun H locs w1 => ?_)
  have w := Wa_uJ e_σ255 w w1
  refine lv_aload_n G.1.1 G.1.2.1 (dcs_get dec_X12_init_6 2 rfl) rfl (lv_at hl 0 rfl) ?_
  obtain ⟨z256, e_z256, ok_z256, hf⟩ := cR_some hf
  have k_z256 := okr_in ok_z256
  refine r_getr (k := 9) cls12 fi_12_9.1 fi_12_9.2 q_1017 (G.gx w) w.1 k_a0.1 k_a0.2 e_z256 (dcs_get dec_X12_init_6 3 rfl) ?_
  refine lv_iconst (v := (4 : Int32)) G.1.1 G.1.2.1 (dcs_get dec_X12_init_6 4 rfl) (by decide) ?_
  refine lv_bipush (v := (119 : Int32)) G.1.1 G.1.2.1 (dcs_get dec_X12_init_6 5 rfl) (by decide) ?_
  refine lv_bipush (v := (105 : Int32)) G.1.1 G.1.2.1 (dcs_get dec_X12_init_6 6 rfl) (by decide) ?_
  refine lv_bipush (v := (110 : Int32)) G.1.1 G.1.2.1 (dcs_get dec_X12_init_6 7 rfl) (by decide) ?_
  refine lv_bipush (v := (100 : Int32)) G.1.1 G.1.2.1 (dcs_get dec_X12_init_6 8 rfl) (by decide) ?_
  refine lv_iconst (v := (0 : Int32)) G.1.1 G.1.2.1 (dcs_get dec_X12_init_6 9 rfl) (by decide) ?_
  refine lv_iconst (v := (0 : Int32)) G.1.1 G.1.2.1 (dcs_get dec_X12_init_6 10 rfl) (by decide) ?_
  refine lv_iconst (v := (0 : Int32)) G.1.1 G.1.2.1 (dcs_get dec_X12_init_6 11 rfl) (by decide) ?_
  obtain ⟨v258, h257, hf⟩ := cB_some hf
  refine a_l (k_S (As := [.int (119 : Int32), .int (105 : Int32), .int (110 : Int32), .int (100 : Int32), .int (0 : Int32), .int (0 : Int32), .int (0 : Int32)]) (rest := [.int (4 : Int32), .ref (ad z256)]) lb_X12_word q_991 q_990 (C_X12_word w.2.1 (119 : Int32) (105 : Int32) (110 : Int32) (100 : Int32) (0 : Int32) (0 : Int32) (0 : Int32) σ255 h257 ) ⟨Nat.le_of_ble_eq_true rfl, Nat.le_of_ble_eq_true rfl⟩ (G.gx w) w.1 rfl rfl hl.1 (Nat.le_of_ble_eq_true rfl) (dcs_get dec_X12_init_6 12 rfl) ⟨Nat.le_of_ble_eq_true rfl, Nat.le_of_ble_eq_true rfl⟩) (G.gx w) w.1 (fun H locs w1 => ?_)
  have w := Wa_same w w1
  obtain ⟨h259, hf⟩ := cG_some hf
  obtain ⟨σ260, e_σ260, hf⟩ := cL_some hf
  refine r_last (G.gx w) w.1 k_z256.1 k_z256.2 h259 (dcs_get dec_X12_init_6 13 rfl) (fun H locs w1 => ?_)
  have w := Wa_uJ e_σ260 w w1
  refine lv_aload_n G.1.1 G.1.2.1 (dcs_get dec_X12_init_6 14 rfl) rfl (lv_at hl 0 rfl) ?_
  obtain ⟨z261, e_z261, ok_z261, hf⟩ := cR_some hf
  have k_z261 := okr_in ok_z261
  refine r_getr (k := 9) cls12 fi_12_9.1 fi_12_9.2 q_1017 (G.gx w) w.1 k_a0.1 k_a0.2 e_z261 (dcs_get dec_X12_init_6 15 rfl) ?_
  refine lv_iconst (v := (5 : Int32)) G.1.1 G.1.2.1 (dcs_get dec_X12_init_6 16 rfl) (by decide) ?_
  refine lv_bipush (v := (102 : Int32)) G.1.1 G.1.2.1 (dcs_get dec_X12_init_6 17 rfl) (by decide) ?_
  refine lv_bipush (v := (111 : Int32)) G.1.1 G.1.2.1 (dcs_get dec_X12_init_6 18 rfl) (by decide) ?_
  refine lv_bipush (v := (103 : Int32)) G.1.1 G.1.2.1 (dcs_get dec_X12_init_6 19 rfl) (by decide) ?_
  refine lv_iconst (v := (0 : Int32)) G.1.1 G.1.2.1 (dcs_get dec_X12_init_6 20 rfl) (by decide) ?_
  refine lv_iconst (v := (0 : Int32)) G.1.1 G.1.2.1 (dcs_get dec_X12_init_6 21 rfl) (by decide) ?_
  refine lv_iconst (v := (0 : Int32)) G.1.1 G.1.2.1 (dcs_get dec_X12_init_6 22 rfl) (by decide) ?_
  refine lv_iconst (v := (0 : Int32)) G.1.1 G.1.2.1 (dcs_get dec_X12_init_6 23 rfl) (by decide) ?_
  obtain ⟨v263, h262, hf⟩ := cB_some hf
  refine a_l (k_S (As := [.int (102 : Int32), .int (111 : Int32), .int (103 : Int32), .int (0 : Int32), .int (0 : Int32), .int (0 : Int32), .int (0 : Int32)]) (rest := [.int (5 : Int32), .ref (ad z261)]) lb_X12_word q_991 q_990 (C_X12_word w.2.1 (102 : Int32) (111 : Int32) (103 : Int32) (0 : Int32) (0 : Int32) (0 : Int32) (0 : Int32) σ260 h262 ) ⟨Nat.le_of_ble_eq_true rfl, Nat.le_of_ble_eq_true rfl⟩ (G.gx w) w.1 rfl rfl hl.1 (Nat.le_of_ble_eq_true rfl) (dcs_get dec_X12_init_6 24 rfl) ⟨Nat.le_of_ble_eq_true rfl, Nat.le_of_ble_eq_true rfl⟩) (G.gx w) w.1 (fun H locs w1 => ?_)
  have w := Wa_same w w1
  obtain ⟨h264, hf⟩ := cG_some hf
  obtain ⟨σ265, e_σ265, hf⟩ := cL_some hf
  refine r_last (G.gx w) w.1 k_z261.1 k_z261.2 h264 (dcs_get dec_X12_init_6 25 rfl) (fun H locs w1 => ?_)
  have w := Wa_uJ e_σ265 w w1
  refine lv_aload_n G.1.1 G.1.2.1 (dcs_get dec_X12_init_6 26 rfl) rfl (lv_at hl 0 rfl) ?_
  obtain ⟨z266, e_z266, ok_z266, hf⟩ := cR_some hf
  have k_z266 := okr_in ok_z266
  refine r_getr (k := 9) cls12 fi_12_9.1 fi_12_9.2 q_1017 (G.gx w) w.1 k_a0.1 k_a0.2 e_z266 (dcs_get dec_X12_init_6 27 rfl) ?_
  refine lv_bipush (v := (6 : Int32)) G.1.1 G.1.2.1 (dcs_get dec_X12_init_6 28 rfl) (by decide) ?_
  refine lv_bipush (v := (111 : Int32)) G.1.1 G.1.2.1 (dcs_get dec_X12_init_6 29 rfl) (by decide) ?_
  refine lv_bipush (v := (114 : Int32)) G.1.1 G.1.2.1 (dcs_get dec_X12_init_6 30 rfl) (by decide) ?_
  refine lv_bipush (v := (100 : Int32)) G.1.1 G.1.2.1 (dcs_get dec_X12_init_6 31 rfl) (by decide) ?_
  refine lv_bipush (v := (101 : Int32)) G.1.1 G.1.2.1 (dcs_get dec_X12_init_6 32 rfl) (by decide) ?_
  refine lv_bipush (v := (114 : Int32)) G.1.1 G.1.2.1 (dcs_get dec_X12_init_6 33 rfl) (by decide) ?_
  refine lv_iconst (v := (0 : Int32)) G.1.1 G.1.2.1 (dcs_get dec_X12_init_6 34 rfl) (by decide) ?_
  refine lv_iconst (v := (0 : Int32)) G.1.1 G.1.2.1 (dcs_get dec_X12_init_6 35 rfl) (by decide) ?_
  obtain ⟨v268, h267, hf⟩ := cB_some hf
  refine a_l (k_S (As := [.int (111 : Int32), .int (114 : Int32), .int (100 : Int32), .int (101 : Int32), .int (114 : Int32), .int (0 : Int32), .int (0 : Int32)]) (rest := [.int (6 : Int32), .ref (ad z266)]) lb_X12_word q_991 q_990 (C_X12_word w.2.1 (111 : Int32) (114 : Int32) (100 : Int32) (101 : Int32) (114 : Int32) (0 : Int32) (0 : Int32) σ265 h267 ) ⟨Nat.le_of_ble_eq_true rfl, Nat.le_of_ble_eq_true rfl⟩ (G.gx w) w.1 rfl rfl hl.1 (Nat.le_of_ble_eq_true rfl) (dcs_get dec_X12_init_6 36 rfl) ⟨Nat.le_of_ble_eq_true rfl, Nat.le_of_ble_eq_true rfl⟩) (G.gx w) w.1 (fun H locs w1 => ?_)
  have w := Wa_same w w1
  obtain ⟨h269, hf⟩ := cG_some hf
  obtain ⟨σ270, e_σ270, hf⟩ := cL_some hf
  refine r_last (G.gx w) w.1 k_z266.1 k_z266.2 h269 (dcs_get dec_X12_init_6 37 rfl) (fun H locs w1 => ?_)
  have w := Wa_uJ e_σ270 w w1
  refine lv_aload_n G.1.1 G.1.2.1 (dcs_get dec_X12_init_6 38 rfl) rfl (lv_at hl 0 rfl) ?_
  obtain ⟨z271, e_z271, ok_z271, hf⟩ := cR_some hf
  have k_z271 := okr_in ok_z271
  refine r_getr (k := 9) cls12 fi_12_9.1 fi_12_9.2 q_1017 (G.gx w) w.1 k_a0.1 k_a0.2 e_z271 (dcs_get dec_X12_init_6 39 rfl) ?_
  refine lv_bipush (v := (7 : Int32)) G.1.1 G.1.2.1 (dcs_get dec_X12_init_7 0 rfl) (by decide) ?_
  refine lv_bipush (v := (102 : Int32)) G.1.1 G.1.2.1 (dcs_get dec_X12_init_7 1 rfl) (by decide) ?_
  refine lv_bipush (v := (114 : Int32)) G.1.1 G.1.2.1 (dcs_get dec_X12_init_7 2 rfl) (by decide) ?_
  refine lv_bipush (v := (101 : Int32)) G.1.1 G.1.2.1 (dcs_get dec_X12_init_7 3 rfl) (by decide) ?_
  refine lv_bipush (v := (101 : Int32)) G.1.1 G.1.2.1 (dcs_get dec_X12_init_7 4 rfl) (by decide) ?_
  refine lv_iconst (v := (0 : Int32)) G.1.1 G.1.2.1 (dcs_get dec_X12_init_7 5 rfl) (by decide) ?_
  refine lv_iconst (v := (0 : Int32)) G.1.1 G.1.2.1 (dcs_get dec_X12_init_7 6 rfl) (by decide) ?_
  refine lv_iconst (v := (0 : Int32)) G.1.1 G.1.2.1 (dcs_get dec_X12_init_7 7 rfl) (by decide) ?_
  obtain ⟨v273, h272, hf⟩ := cB_some hf
  refine a_l (k_S (As := [.int (102 : Int32), .int (114 : Int32), .int (101 : Int32), .int (101 : Int32), .int (0 : Int32), .int (0 : Int32), .int (0 : Int32)]) (rest := [.int (7 : Int32), .ref (ad z271)]) lb_X12_word q_991 q_990 (C_X12_word w.2.1 (102 : Int32) (114 : Int32) (101 : Int32) (101 : Int32) (0 : Int32) (0 : Int32) (0 : Int32) σ270 h272 ) ⟨Nat.le_of_ble_eq_true rfl, Nat.le_of_ble_eq_true rfl⟩ (G.gx w) w.1 rfl rfl hl.1 (Nat.le_of_ble_eq_true rfl) (dcs_get dec_X12_init_7 8 rfl) ⟨Nat.le_of_ble_eq_true rfl, Nat.le_of_ble_eq_true rfl⟩) (G.gx w) w.1 (fun H locs w1 => ?_)
  have w := Wa_same w w1
  obtain ⟨h274, hf⟩ := cG_some hf
  obtain ⟨σ275, e_σ275, hf⟩ := cL_some hf
  refine r_last (G.gx w) w.1 k_z271.1 k_z271.2 h274 (dcs_get dec_X12_init_7 9 rfl) (fun H locs w1 => ?_)
  have w := Wa_uJ e_σ275 w w1
  refine lv_aload_n G.1.1 G.1.2.1 (dcs_get dec_X12_init_7 10 rfl) rfl (lv_at hl 0 rfl) ?_
  obtain ⟨z276, e_z276, ok_z276, hf⟩ := cR_some hf
  have k_z276 := okr_in ok_z276
  refine r_getr (k := 9) cls12 fi_12_9.1 fi_12_9.2 q_1017 (G.gx w) w.1 k_a0.1 k_a0.2 e_z276 (dcs_get dec_X12_init_7 11 rfl) ?_
  refine lv_bipush (v := (8 : Int32)) G.1.1 G.1.2.1 (dcs_get dec_X12_init_7 12 rfl) (by decide) ?_
  refine lv_bipush (v := (116 : Int32)) G.1.1 G.1.2.1 (dcs_get dec_X12_init_7 13 rfl) (by decide) ?_
  refine lv_bipush (v := (111 : Int32)) G.1.1 G.1.2.1 (dcs_get dec_X12_init_7 14 rfl) (by decide) ?_
  refine lv_bipush (v := (112 : Int32)) G.1.1 G.1.2.1 (dcs_get dec_X12_init_7 15 rfl) (by decide) ?_
  refine lv_bipush (v := (105 : Int32)) G.1.1 G.1.2.1 (dcs_get dec_X12_init_7 16 rfl) (by decide) ?_
  refine lv_bipush (v := (99 : Int32)) G.1.1 G.1.2.1 (dcs_get dec_X12_init_7 17 rfl) (by decide) ?_
  refine lv_iconst (v := (0 : Int32)) G.1.1 G.1.2.1 (dcs_get dec_X12_init_7 18 rfl) (by decide) ?_
  refine lv_iconst (v := (0 : Int32)) G.1.1 G.1.2.1 (dcs_get dec_X12_init_7 19 rfl) (by decide) ?_
  obtain ⟨v278, h277, hf⟩ := cB_some hf
  refine a_l (k_S (As := [.int (116 : Int32), .int (111 : Int32), .int (112 : Int32), .int (105 : Int32), .int (99 : Int32), .int (0 : Int32), .int (0 : Int32)]) (rest := [.int (8 : Int32), .ref (ad z276)]) lb_X12_word q_991 q_990 (C_X12_word w.2.1 (116 : Int32) (111 : Int32) (112 : Int32) (105 : Int32) (99 : Int32) (0 : Int32) (0 : Int32) σ275 h277 ) ⟨Nat.le_of_ble_eq_true rfl, Nat.le_of_ble_eq_true rfl⟩ (G.gx w) w.1 rfl rfl hl.1 (Nat.le_of_ble_eq_true rfl) (dcs_get dec_X12_init_7 20 rfl) ⟨Nat.le_of_ble_eq_true rfl, Nat.le_of_ble_eq_true rfl⟩) (G.gx w) w.1 (fun H locs w1 => ?_)
  have w := Wa_same w w1
  obtain ⟨h279, hf⟩ := cG_some hf
  obtain ⟨σ280, e_σ280, hf⟩ := cL_some hf
  refine r_last (G.gx w) w.1 k_z276.1 k_z276.2 h279 (dcs_get dec_X12_init_7 21 rfl) (fun H locs w1 => ?_)
  have w := Wa_uJ e_σ280 w w1
  refine lv_aload_n G.1.1 G.1.2.1 (dcs_get dec_X12_init_7 22 rfl) rfl (lv_at hl 0 rfl) ?_
  obtain ⟨z281, e_z281, ok_z281, hf⟩ := cR_some hf
  have k_z281 := okr_in ok_z281
  refine r_getr (k := 9) cls12 fi_12_9.1 fi_12_9.2 q_1017 (G.gx w) w.1 k_a0.1 k_a0.2 e_z281 (dcs_get dec_X12_init_7 23 rfl) ?_
  refine lv_bipush (v := (9 : Int32)) G.1.1 G.1.2.1 (dcs_get dec_X12_init_7 24 rfl) (by decide) ?_
  refine lv_bipush (v := (97 : Int32)) G.1.1 G.1.2.1 (dcs_get dec_X12_init_7 25 rfl) (by decide) ?_
  refine lv_bipush (v := (110 : Int32)) G.1.1 G.1.2.1 (dcs_get dec_X12_init_7 26 rfl) (by decide) ?_
  refine lv_bipush (v := (121 : Int32)) G.1.1 G.1.2.1 (dcs_get dec_X12_init_7 27 rfl) (by decide) ?_
  refine lv_iconst (v := (0 : Int32)) G.1.1 G.1.2.1 (dcs_get dec_X12_init_7 28 rfl) (by decide) ?_
  refine lv_iconst (v := (0 : Int32)) G.1.1 G.1.2.1 (dcs_get dec_X12_init_7 29 rfl) (by decide) ?_
  refine lv_iconst (v := (0 : Int32)) G.1.1 G.1.2.1 (dcs_get dec_X12_init_7 30 rfl) (by decide) ?_
  refine lv_iconst (v := (0 : Int32)) G.1.1 G.1.2.1 (dcs_get dec_X12_init_7 31 rfl) (by decide) ?_
  obtain ⟨v283, h282, hf⟩ := cB_some hf
  refine a_l (k_S (As := [.int (97 : Int32), .int (110 : Int32), .int (121 : Int32), .int (0 : Int32), .int (0 : Int32), .int (0 : Int32), .int (0 : Int32)]) (rest := [.int (9 : Int32), .ref (ad z281)]) lb_X12_word q_991 q_990 (C_X12_word w.2.1 (97 : Int32) (110 : Int32) (121 : Int32) (0 : Int32) (0 : Int32) (0 : Int32) (0 : Int32) σ280 h282 ) ⟨Nat.le_of_ble_eq_true rfl, Nat.le_of_ble_eq_true rfl⟩ (G.gx w) w.1 rfl rfl hl.1 (Nat.le_of_ble_eq_true rfl) (dcs_get dec_X12_init_7 32 rfl) ⟨Nat.le_of_ble_eq_true rfl, Nat.le_of_ble_eq_true rfl⟩) (G.gx w) w.1 (fun H locs w1 => ?_)
  have w := Wa_same w w1
  obtain ⟨h284, hf⟩ := cG_some hf
  obtain ⟨σ285, e_σ285, hf⟩ := cL_some hf
  refine r_last (G.gx w) w.1 k_z281.1 k_z281.2 h284 (dcs_get dec_X12_init_7 33 rfl) (fun H locs w1 => ?_)
  have w := Wa_uJ e_σ285 w w1
  refine lv_aload_n G.1.1 G.1.2.1 (dcs_get dec_X12_init_7 34 rfl) rfl (lv_at hl 0 rfl) ?_
  obtain ⟨z286, e_z286, ok_z286, hf⟩ := cR_some hf
  have k_z286 := okr_in ok_z286
  refine r_getr (k := 9) cls12 fi_12_9.1 fi_12_9.2 q_1017 (G.gx w) w.1 k_a0.1 k_a0.2 e_z286 (dcs_get dec_X12_init_7 35 rfl) ?_
  refine lv_bipush (v := (10 : Int32)) G.1.1 G.1.2.1 (dcs_get dec_X12_init_7 36 rfl) (by decide) ?_
  refine lv_bipush (v := (111 : Int32)) G.1.1 G.1.2.1 (dcs_get dec_X12_init_7 37 rfl) (by decide) ?_
  refine lv_bipush (v := (116 : Int32)) G.1.1 G.1.2.1 (dcs_get dec_X12_init_7 38 rfl) (by decide) ?_
  refine lv_bipush (v := (104 : Int32)) G.1.1 G.1.2.1 (dcs_get dec_X12_init_7 39 rfl) (by decide) ?_
  refine lv_bipush (v := (101 : Int32)) G.1.1 G.1.2.1 (dcs_get dec_X12_init_8 0 rfl) (by decide) ?_
  refine lv_bipush (v := (114 : Int32)) G.1.1 G.1.2.1 (dcs_get dec_X12_init_8 1 rfl) (by decide) ?_
  refine lv_iconst (v := (0 : Int32)) G.1.1 G.1.2.1 (dcs_get dec_X12_init_8 2 rfl) (by decide) ?_
  refine lv_iconst (v := (0 : Int32)) G.1.1 G.1.2.1 (dcs_get dec_X12_init_8 3 rfl) (by decide) ?_
  obtain ⟨v288, h287, hf⟩ := cB_some hf
  refine a_l (k_S (As := [.int (111 : Int32), .int (116 : Int32), .int (104 : Int32), .int (101 : Int32), .int (114 : Int32), .int (0 : Int32), .int (0 : Int32)]) (rest := [.int (10 : Int32), .ref (ad z286)]) lb_X12_word q_991 q_990 (C_X12_word w.2.1 (111 : Int32) (116 : Int32) (104 : Int32) (101 : Int32) (114 : Int32) (0 : Int32) (0 : Int32) σ285 h287 ) ⟨Nat.le_of_ble_eq_true rfl, Nat.le_of_ble_eq_true rfl⟩ (G.gx w) w.1 rfl rfl hl.1 (Nat.le_of_ble_eq_true rfl) (dcs_get dec_X12_init_8 4 rfl) ⟨Nat.le_of_ble_eq_true rfl, Nat.le_of_ble_eq_true rfl⟩) (G.gx w) w.1 (fun H locs w1 => ?_)
  have w := Wa_same w w1
  obtain ⟨h289, hf⟩ := cG_some hf
  obtain ⟨σ290, e_σ290, hf⟩ := cL_some hf
  refine r_last (G.gx w) w.1 k_z286.1 k_z286.2 h289 (dcs_get dec_X12_init_8 5 rfl) (fun H locs w1 => ?_)
  have w := Wa_uJ e_σ290 w w1
  refine lv_aload_n G.1.1 G.1.2.1 (dcs_get dec_X12_init_8 6 rfl) rfl (lv_at hl 0 rfl) ?_
  obtain ⟨z291, e_z291, ok_z291, hf⟩ := cR_some hf
  have k_z291 := okr_in ok_z291
  refine r_getr (k := 9) cls12 fi_12_9.1 fi_12_9.2 q_1017 (G.gx w) w.1 k_a0.1 k_a0.2 e_z291 (dcs_get dec_X12_init_8 7 rfl) ?_
  refine lv_bipush (v := (11 : Int32)) G.1.1 G.1.2.1 (dcs_get dec_X12_init_8 8 rfl) (by decide) ?_
  refine lv_bipush (v := (115 : Int32)) G.1.1 G.1.2.1 (dcs_get dec_X12_init_8 9 rfl) (by decide) ?_
  refine lv_bipush (v := (108 : Int32)) G.1.1 G.1.2.1 (dcs_get dec_X12_init_8 10 rfl) (by decide) ?_
  refine lv_bipush (v := (101 : Int32)) G.1.1 G.1.2.1 (dcs_get dec_X12_init_8 11 rfl) (by decide) ?_
  refine lv_bipush (v := (101 : Int32)) G.1.1 G.1.2.1 (dcs_get dec_X12_init_8 12 rfl) (by decide) ?_
  refine lv_bipush (v := (112 : Int32)) G.1.1 G.1.2.1 (dcs_get dec_X12_init_8 13 rfl) (by decide) ?_
  refine lv_bipush (v := (101 : Int32)) G.1.1 G.1.2.1 (dcs_get dec_X12_init_8 14 rfl) (by decide) ?_
  refine lv_bipush (v := (114 : Int32)) G.1.1 G.1.2.1 (dcs_get dec_X12_init_8 15 rfl) (by decide) ?_
  obtain ⟨v293, h292, hf⟩ := cB_some hf
  refine a_l (k_S (As := [.int (115 : Int32), .int (108 : Int32), .int (101 : Int32), .int (101 : Int32), .int (112 : Int32), .int (101 : Int32), .int (114 : Int32)]) (rest := [.int (11 : Int32), .ref (ad z291)]) lb_X12_word q_991 q_990 (C_X12_word w.2.1 (115 : Int32) (108 : Int32) (101 : Int32) (101 : Int32) (112 : Int32) (101 : Int32) (114 : Int32) σ290 h292 ) ⟨Nat.le_of_ble_eq_true rfl, Nat.le_of_ble_eq_true rfl⟩ (G.gx w) w.1 rfl rfl hl.1 (Nat.le_of_ble_eq_true rfl) (dcs_get dec_X12_init_8 16 rfl) ⟨Nat.le_of_ble_eq_true rfl, Nat.le_of_ble_eq_true rfl⟩) (G.gx w) w.1 (fun H locs w1 => ?_)
  have w := Wa_same w w1
  obtain ⟨h294, hf⟩ := cG_some hf
  obtain ⟨σ295, e_σ295, hf⟩ := cL_some hf
  refine r_last (G.gx w) w.1 k_z291.1 k_z291.2 h294 (dcs_get dec_X12_init_8 17 rfl) (fun H locs w1 => ?_)
  have w := Wa_uJ e_σ295 w w1
  refine lv_aload_n G.1.1 G.1.2.1 (dcs_get dec_X12_init_8 18 rfl) rfl (lv_at hl 0 rfl) ?_
  obtain ⟨z296, e_z296, ok_z296, hf⟩ := cR_some hf
  have k_z296 := okr_in ok_z296
  refine r_getr (k := 9) cls12 fi_12_9.1 fi_12_9.2 q_1017 (G.gx w) w.1 k_a0.1 k_a0.2 e_z296 (dcs_get dec_X12_init_8 19 rfl) ?_
  refine lv_bipush (v := (12 : Int32)) G.1.1 G.1.2.1 (dcs_get dec_X12_init_8 20 rfl) (by decide) ?_
  refine lv_bipush (v := (105 : Int32)) G.1.1 G.1.2.1 (dcs_get dec_X12_init_8 21 rfl) (by decide) ?_
  refine lv_bipush (v := (102 : Int32)) G.1.1 G.1.2.1 (dcs_get dec_X12_init_8 22 rfl) (by decide) ?_
  refine lv_iconst (v := (0 : Int32)) G.1.1 G.1.2.1 (dcs_get dec_X12_init_8 23 rfl) (by decide) ?_
  refine lv_iconst (v := (0 : Int32)) G.1.1 G.1.2.1 (dcs_get dec_X12_init_8 24 rfl) (by decide) ?_
  refine lv_iconst (v := (0 : Int32)) G.1.1 G.1.2.1 (dcs_get dec_X12_init_8 25 rfl) (by decide) ?_
  refine lv_iconst (v := (0 : Int32)) G.1.1 G.1.2.1 (dcs_get dec_X12_init_8 26 rfl) (by decide) ?_
  refine lv_iconst (v := (0 : Int32)) G.1.1 G.1.2.1 (dcs_get dec_X12_init_8 27 rfl) (by decide) ?_
  obtain ⟨v298, h297, hf⟩ := cB_some hf
  refine a_l (k_S (As := [.int (105 : Int32), .int (102 : Int32), .int (0 : Int32), .int (0 : Int32), .int (0 : Int32), .int (0 : Int32), .int (0 : Int32)]) (rest := [.int (12 : Int32), .ref (ad z296)]) lb_X12_word q_991 q_990 (C_X12_word w.2.1 (105 : Int32) (102 : Int32) (0 : Int32) (0 : Int32) (0 : Int32) (0 : Int32) (0 : Int32) σ295 h297 ) ⟨Nat.le_of_ble_eq_true rfl, Nat.le_of_ble_eq_true rfl⟩ (G.gx w) w.1 rfl rfl hl.1 (Nat.le_of_ble_eq_true rfl) (dcs_get dec_X12_init_8 28 rfl) ⟨Nat.le_of_ble_eq_true rfl, Nat.le_of_ble_eq_true rfl⟩) (G.gx w) w.1 (fun H locs w1 => ?_)
  have w := Wa_same w w1
  obtain ⟨h299, hf⟩ := cG_some hf
  obtain ⟨σ300, e_σ300, hf⟩ := cL_some hf
  refine r_last (G.gx w) w.1 k_z296.1 k_z296.2 h299 (dcs_get dec_X12_init_8 29 rfl) (fun H locs w1 => ?_)
  have w := Wa_uJ e_σ300 w w1
  refine lv_aload_n G.1.1 G.1.2.1 (dcs_get dec_X12_init_8 30 rfl) rfl (lv_at hl 0 rfl) ?_
  obtain ⟨z301, e_z301, ok_z301, hf⟩ := cR_some hf
  have k_z301 := okr_in ok_z301
  refine r_getr (k := 9) cls12 fi_12_9.1 fi_12_9.2 q_1017 (G.gx w) w.1 k_a0.1 k_a0.2 e_z301 (dcs_get dec_X12_init_8 31 rfl) ?_
  refine lv_bipush (v := (13 : Int32)) G.1.1 G.1.2.1 (dcs_get dec_X12_init_8 32 rfl) (by decide) ?_
  refine lv_bipush (v := (116 : Int32)) G.1.1 G.1.2.1 (dcs_get dec_X12_init_8 33 rfl) (by decide) ?_
  refine lv_bipush (v := (104 : Int32)) G.1.1 G.1.2.1 (dcs_get dec_X12_init_8 34 rfl) (by decide) ?_
  refine lv_bipush (v := (101 : Int32)) G.1.1 G.1.2.1 (dcs_get dec_X12_init_8 35 rfl) (by decide) ?_
  refine lv_bipush (v := (110 : Int32)) G.1.1 G.1.2.1 (dcs_get dec_X12_init_8 36 rfl) (by decide) ?_
  refine lv_iconst (v := (0 : Int32)) G.1.1 G.1.2.1 (dcs_get dec_X12_init_8 37 rfl) (by decide) ?_
  refine lv_iconst (v := (0 : Int32)) G.1.1 G.1.2.1 (dcs_get dec_X12_init_8 38 rfl) (by decide) ?_
  refine lv_iconst (v := (0 : Int32)) G.1.1 G.1.2.1 (dcs_get dec_X12_init_8 39 rfl) (by decide) ?_
  obtain ⟨v303, h302, hf⟩ := cB_some hf
  refine a_l (k_S (As := [.int (116 : Int32), .int (104 : Int32), .int (101 : Int32), .int (110 : Int32), .int (0 : Int32), .int (0 : Int32), .int (0 : Int32)]) (rest := [.int (13 : Int32), .ref (ad z301)]) lb_X12_word q_991 q_990 (C_X12_word w.2.1 (116 : Int32) (104 : Int32) (101 : Int32) (110 : Int32) (0 : Int32) (0 : Int32) (0 : Int32) σ300 h302 ) ⟨Nat.le_of_ble_eq_true rfl, Nat.le_of_ble_eq_true rfl⟩ (G.gx w) w.1 rfl rfl hl.1 (Nat.le_of_ble_eq_true rfl) (dcs_get dec_X12_init_9 0 rfl) ⟨Nat.le_of_ble_eq_true rfl, Nat.le_of_ble_eq_true rfl⟩) (G.gx w) w.1 (fun H locs w1 => ?_)
  have w := Wa_same w w1
  obtain ⟨h304, hf⟩ := cG_some hf
  obtain ⟨σ305, e_σ305, hf⟩ := cL_some hf
  refine r_last (G.gx w) w.1 k_z301.1 k_z301.2 h304 (dcs_get dec_X12_init_9 1 rfl) (fun H locs w1 => ?_)
  have w := Wa_uJ e_σ305 w w1
  refine lv_aload_n G.1.1 G.1.2.1 (dcs_get dec_X12_init_9 2 rfl) rfl (lv_at hl 0 rfl) ?_
  obtain ⟨z306, e_z306, ok_z306, hf⟩ := cR_some hf
  have k_z306 := okr_in ok_z306
  refine r_getr (k := 9) cls12 fi_12_9.1 fi_12_9.2 q_1017 (G.gx w) w.1 k_a0.1 k_a0.2 e_z306 (dcs_get dec_X12_init_9 3 rfl) ?_
  refine lv_bipush (v := (14 : Int32)) G.1.1 G.1.2.1 (dcs_get dec_X12_init_9 4 rfl) (by decide) ?_
  refine lv_bipush (v := (101 : Int32)) G.1.1 G.1.2.1 (dcs_get dec_X12_init_9 5 rfl) (by decide) ?_
  refine lv_bipush (v := (108 : Int32)) G.1.1 G.1.2.1 (dcs_get dec_X12_init_9 6 rfl) (by decide) ?_
  refine lv_bipush (v := (115 : Int32)) G.1.1 G.1.2.1 (dcs_get dec_X12_init_9 7 rfl) (by decide) ?_
  refine lv_bipush (v := (101 : Int32)) G.1.1 G.1.2.1 (dcs_get dec_X12_init_9 8 rfl) (by decide) ?_
  refine lv_iconst (v := (0 : Int32)) G.1.1 G.1.2.1 (dcs_get dec_X12_init_9 9 rfl) (by decide) ?_
  refine lv_iconst (v := (0 : Int32)) G.1.1 G.1.2.1 (dcs_get dec_X12_init_9 10 rfl) (by decide) ?_
  refine lv_iconst (v := (0 : Int32)) G.1.1 G.1.2.1 (dcs_get dec_X12_init_9 11 rfl) (by decide) ?_
  obtain ⟨v308, h307, hf⟩ := cB_some hf
  refine a_l (k_S (As := [.int (101 : Int32), .int (108 : Int32), .int (115 : Int32), .int (101 : Int32), .int (0 : Int32), .int (0 : Int32), .int (0 : Int32)]) (rest := [.int (14 : Int32), .ref (ad z306)]) lb_X12_word q_991 q_990 (C_X12_word w.2.1 (101 : Int32) (108 : Int32) (115 : Int32) (101 : Int32) (0 : Int32) (0 : Int32) (0 : Int32) σ305 h307 ) ⟨Nat.le_of_ble_eq_true rfl, Nat.le_of_ble_eq_true rfl⟩ (G.gx w) w.1 rfl rfl hl.1 (Nat.le_of_ble_eq_true rfl) (dcs_get dec_X12_init_9 12 rfl) ⟨Nat.le_of_ble_eq_true rfl, Nat.le_of_ble_eq_true rfl⟩) (G.gx w) w.1 (fun H locs w1 => ?_)
  have w := Wa_same w w1
  obtain ⟨h309, hf⟩ := cG_some hf
  obtain ⟨σ310, e_σ310, hf⟩ := cL_some hf
  refine r_last (G.gx w) w.1 k_z306.1 k_z306.2 h309 (dcs_get dec_X12_init_9 13 rfl) (fun H locs w1 => ?_)
  have w := Wa_uJ e_σ310 w w1
  refine lv_aload_n G.1.1 G.1.2.1 (dcs_get dec_X12_init_9 14 rfl) rfl (lv_at hl 0 rfl) ?_
  obtain ⟨z311, e_z311, ok_z311, hf⟩ := cR_some hf
  have k_z311 := okr_in ok_z311
  refine r_getr (k := 9) cls12 fi_12_9.1 fi_12_9.2 q_1017 (G.gx w) w.1 k_a0.1 k_a0.2 e_z311 (dcs_get dec_X12_init_9 15 rfl) ?_
  refine lv_bipush (v := (15 : Int32)) G.1.1 G.1.2.1 (dcs_get dec_X12_init_9 16 rfl) (by decide) ?_
  refine lv_bipush (v := (102 : Int32)) G.1.1 G.1.2.1 (dcs_get dec_X12_init_9 17 rfl) (by decide) ?_
  refine lv_bipush (v := (97 : Int32)) G.1.1 G.1.2.1 (dcs_get dec_X12_init_9 18 rfl) (by decide) ?_
  refine lv_bipush (v := (114 : Int32)) G.1.1 G.1.2.1 (dcs_get dec_X12_init_9 19 rfl) (by decide) ?_
  refine lv_iconst (v := (0 : Int32)) G.1.1 G.1.2.1 (dcs_get dec_X12_init_9 20 rfl) (by decide) ?_
  refine lv_iconst (v := (0 : Int32)) G.1.1 G.1.2.1 (dcs_get dec_X12_init_9 21 rfl) (by decide) ?_
  refine lv_iconst (v := (0 : Int32)) G.1.1 G.1.2.1 (dcs_get dec_X12_init_9 22 rfl) (by decide) ?_
  refine lv_iconst (v := (0 : Int32)) G.1.1 G.1.2.1 (dcs_get dec_X12_init_9 23 rfl) (by decide) ?_
  obtain ⟨v313, h312, hf⟩ := cB_some hf
  refine a_l (k_S (As := [.int (102 : Int32), .int (97 : Int32), .int (114 : Int32), .int (0 : Int32), .int (0 : Int32), .int (0 : Int32), .int (0 : Int32)]) (rest := [.int (15 : Int32), .ref (ad z311)]) lb_X12_word q_991 q_990 (C_X12_word w.2.1 (102 : Int32) (97 : Int32) (114 : Int32) (0 : Int32) (0 : Int32) (0 : Int32) (0 : Int32) σ310 h312 ) ⟨Nat.le_of_ble_eq_true rfl, Nat.le_of_ble_eq_true rfl⟩ (G.gx w) w.1 rfl rfl hl.1 (Nat.le_of_ble_eq_true rfl) (dcs_get dec_X12_init_9 24 rfl) ⟨Nat.le_of_ble_eq_true rfl, Nat.le_of_ble_eq_true rfl⟩) (G.gx w) w.1 (fun H locs w1 => ?_)
  have w := Wa_same w w1
  obtain ⟨h314, hf⟩ := cG_some hf
  obtain ⟨σ315, e_σ315, hf⟩ := cL_some hf
  refine r_last (G.gx w) w.1 k_z311.1 k_z311.2 h314 (dcs_get dec_X12_init_9 25 rfl) (fun H locs w1 => ?_)
  have w := Wa_uJ e_σ315 w w1
  refine lv_aload_n G.1.1 G.1.2.1 (dcs_get dec_X12_init_9 26 rfl) rfl (lv_at hl 0 rfl) ?_
  obtain ⟨z316, e_z316, ok_z316, hf⟩ := cR_some hf
  have k_z316 := okr_in ok_z316
  refine r_getr (k := 9) cls12 fi_12_9.1 fi_12_9.2 q_1017 (G.gx w) w.1 k_a0.1 k_a0.2 e_z316 (dcs_get dec_X12_init_9 27 rfl) ?_
  refine lv_bipush (v := (16 : Int32)) G.1.1 G.1.2.1 (dcs_get dec_X12_init_9 28 rfl) (by decide) ?_
  refine lv_bipush (v := (100 : Int32)) G.1.1 G.1.2.1 (dcs_get dec_X12_init_9 29 rfl) (by decide) ?_
  refine lv_bipush (v := (97 : Int32)) G.1.1 G.1.2.1 (dcs_get dec_X12_init_9 30 rfl) (by decide) ?_
  refine lv_bipush (v := (121 : Int32)) G.1.1 G.1.2.1 (dcs_get dec_X12_init_9 31 rfl) (by decide) ?_
  refine lv_iconst (v := (0 : Int32)) G.1.1 G.1.2.1 (dcs_get dec_X12_init_9 32 rfl) (by decide) ?_
  refine lv_iconst (v := (0 : Int32)) G.1.1 G.1.2.1 (dcs_get dec_X12_init_9 33 rfl) (by decide) ?_
  refine lv_iconst (v := (0 : Int32)) G.1.1 G.1.2.1 (dcs_get dec_X12_init_9 34 rfl) (by decide) ?_
  refine lv_iconst (v := (0 : Int32)) G.1.1 G.1.2.1 (dcs_get dec_X12_init_9 35 rfl) (by decide) ?_
  obtain ⟨v318, h317, hf⟩ := cB_some hf
  refine a_l (k_S (As := [.int (100 : Int32), .int (97 : Int32), .int (121 : Int32), .int (0 : Int32), .int (0 : Int32), .int (0 : Int32), .int (0 : Int32)]) (rest := [.int (16 : Int32), .ref (ad z316)]) lb_X12_word q_991 q_990 (C_X12_word w.2.1 (100 : Int32) (97 : Int32) (121 : Int32) (0 : Int32) (0 : Int32) (0 : Int32) (0 : Int32) σ315 h317 ) ⟨Nat.le_of_ble_eq_true rfl, Nat.le_of_ble_eq_true rfl⟩ (G.gx w) w.1 rfl rfl hl.1 (Nat.le_of_ble_eq_true rfl) (dcs_get dec_X12_init_9 36 rfl) ⟨Nat.le_of_ble_eq_true rfl, Nat.le_of_ble_eq_true rfl⟩) (G.gx w) w.1 (fun H locs w1 => ?_)
  have w := Wa_same w w1
  obtain ⟨h319, hf⟩ := cG_some hf
  obtain ⟨σ320, e_σ320, hf⟩ := cL_some hf
  refine r_last (G.gx w) w.1 k_z316.1 k_z316.2 h319 (dcs_get dec_X12_init_9 37 rfl) (fun H locs w1 => ?_)
  have w := Wa_uJ e_σ320 w w1
  refine lv_aload_n G.1.1 G.1.2.1 (dcs_get dec_X12_init_9 38 rfl) rfl (lv_at hl 0 rfl) ?_
  obtain ⟨z321, e_z321, ok_z321, hf⟩ := cR_some hf
  have k_z321 := okr_in ok_z321
  refine r_getr (k := 9) cls12 fi_12_9.1 fi_12_9.2 q_1017 (G.gx w) w.1 k_a0.1 k_a0.2 e_z321 (dcs_get dec_X12_init_9 39 rfl) ?_
  refine lv_bipush (v := (17 : Int32)) G.1.1 G.1.2.1 (dcs_get dec_X12_init_10 0 rfl) (by decide) ?_
  refine lv_bipush (v := (102 : Int32)) G.1.1 G.1.2.1 (dcs_get dec_X12_init_10 1 rfl) (by decide) ?_
  refine lv_bipush (v := (114 : Int32)) G.1.1 G.1.2.1 (dcs_get dec_X12_init_10 2 rfl) (by decide) ?_
  refine lv_bipush (v := (111 : Int32)) G.1.1 G.1.2.1 (dcs_get dec_X12_init_10 3 rfl) (by decide) ?_
  refine lv_bipush (v := (109 : Int32)) G.1.1 G.1.2.1 (dcs_get dec_X12_init_10 4 rfl) (by decide) ?_
  refine lv_iconst (v := (0 : Int32)) G.1.1 G.1.2.1 (dcs_get dec_X12_init_10 5 rfl) (by decide) ?_
  refine lv_iconst (v := (0 : Int32)) G.1.1 G.1.2.1 (dcs_get dec_X12_init_10 6 rfl) (by decide) ?_
  refine lv_iconst (v := (0 : Int32)) G.1.1 G.1.2.1 (dcs_get dec_X12_init_10 7 rfl) (by decide) ?_
  obtain ⟨v323, h322, hf⟩ := cB_some hf
  refine a_l (k_S (As := [.int (102 : Int32), .int (114 : Int32), .int (111 : Int32), .int (109 : Int32), .int (0 : Int32), .int (0 : Int32), .int (0 : Int32)]) (rest := [.int (17 : Int32), .ref (ad z321)]) lb_X12_word q_991 q_990 (C_X12_word w.2.1 (102 : Int32) (114 : Int32) (111 : Int32) (109 : Int32) (0 : Int32) (0 : Int32) (0 : Int32) σ320 h322 ) ⟨Nat.le_of_ble_eq_true rfl, Nat.le_of_ble_eq_true rfl⟩ (G.gx w) w.1 rfl rfl hl.1 (Nat.le_of_ble_eq_true rfl) (dcs_get dec_X12_init_10 8 rfl) ⟨Nat.le_of_ble_eq_true rfl, Nat.le_of_ble_eq_true rfl⟩) (G.gx w) w.1 (fun H locs w1 => ?_)
  have w := Wa_same w w1
  obtain ⟨h324, hf⟩ := cG_some hf
  obtain ⟨σ325, e_σ325, hf⟩ := cL_some hf
  refine r_last (G.gx w) w.1 k_z321.1 k_z321.2 h324 (dcs_get dec_X12_init_10 9 rfl) (fun H locs w1 => ?_)
  have w := Wa_uJ e_σ325 w w1
  refine lv_aload_n G.1.1 G.1.2.1 (dcs_get dec_X12_init_10 10 rfl) rfl (lv_at hl 0 rfl) ?_
  obtain ⟨z326, e_z326, ok_z326, hf⟩ := cR_some hf
  have k_z326 := okr_in ok_z326
  refine r_getr (k := 9) cls12 fi_12_9.1 fi_12_9.2 q_1017 (G.gx w) w.1 k_a0.1 k_a0.2 e_z326 (dcs_get dec_X12_init_10 11 rfl) ?_
  refine lv_bipush (v := (18 : Int32)) G.1.1 G.1.2.1 (dcs_get dec_X12_init_10 12 rfl) (by decide) ?_
  refine lv_bipush (v := (116 : Int32)) G.1.1 G.1.2.1 (dcs_get dec_X12_init_10 13 rfl) (by decide) ?_
  refine lv_bipush (v := (111 : Int32)) G.1.1 G.1.2.1 (dcs_get dec_X12_init_10 14 rfl) (by decide) ?_
  refine lv_iconst (v := (0 : Int32)) G.1.1 G.1.2.1 (dcs_get dec_X12_init_10 15 rfl) (by decide) ?_
  refine lv_iconst (v := (0 : Int32)) G.1.1 G.1.2.1 (dcs_get dec_X12_init_10 16 rfl) (by decide) ?_
  refine lv_iconst (v := (0 : Int32)) G.1.1 G.1.2.1 (dcs_get dec_X12_init_10 17 rfl) (by decide) ?_
  refine lv_iconst (v := (0 : Int32)) G.1.1 G.1.2.1 (dcs_get dec_X12_init_10 18 rfl) (by decide) ?_
  refine lv_iconst (v := (0 : Int32)) G.1.1 G.1.2.1 (dcs_get dec_X12_init_10 19 rfl) (by decide) ?_
  obtain ⟨v328, h327, hf⟩ := cB_some hf
  refine a_l (k_S (As := [.int (116 : Int32), .int (111 : Int32), .int (0 : Int32), .int (0 : Int32), .int (0 : Int32), .int (0 : Int32), .int (0 : Int32)]) (rest := [.int (18 : Int32), .ref (ad z326)]) lb_X12_word q_991 q_990 (C_X12_word w.2.1 (116 : Int32) (111 : Int32) (0 : Int32) (0 : Int32) (0 : Int32) (0 : Int32) (0 : Int32) σ325 h327 ) ⟨Nat.le_of_ble_eq_true rfl, Nat.le_of_ble_eq_true rfl⟩ (G.gx w) w.1 rfl rfl hl.1 (Nat.le_of_ble_eq_true rfl) (dcs_get dec_X12_init_10 20 rfl) ⟨Nat.le_of_ble_eq_true rfl, Nat.le_of_ble_eq_true rfl⟩) (G.gx w) w.1 (fun H locs w1 => ?_)
  have w := Wa_same w w1
  obtain ⟨h329, hf⟩ := cG_some hf
  obtain ⟨σ330, e_σ330, hf⟩ := cL_some hf
  refine r_last (G.gx w) w.1 k_z326.1 k_z326.2 h329 (dcs_get dec_X12_init_10 21 rfl) (fun H locs w1 => ?_)
  have w := Wa_uJ e_σ330 w w1
  refine lv_aload_n G.1.1 G.1.2.1 (dcs_get dec_X12_init_10 22 rfl) rfl (lv_at hl 0 rfl) ?_
  obtain ⟨σ332, h331, hf⟩ := cB_some hf
  refine a_v (k_V (As := []) (rest := []) cls12 lb_X12_begins lv_X12_begins q_997 (C_X12_begins w.2.1 a0 σ330 h331 (okr_of k_a0)) ⟨Nat.le_of_ble_eq_true rfl, Nat.le_of_ble_eq_true rfl⟩ (G.gx w) w.1 k_a0.1 k_a0.2 rfl rfl hl.1 (Nat.le_of_ble_eq_true rfl) (dcs_get dec_X12_init_10 23 rfl) ⟨Nat.le_of_ble_eq_true rfl, Nat.le_of_ble_eq_true rfl⟩) (G.gx w) w.1 (fun H locs w1 => ?_)
  have w := Wa_lax w w1
  refine lv_aload_n G.1.1 G.1.2.1 (dcs_get dec_X12_init_10 24 rfl) rfl (lv_at hl 0 rfl) ?_
  obtain ⟨σ334, h333, hf⟩ := cB_some hf
  refine a_v (k_V (As := []) (rest := []) cls12 lb_X12_keepsRow lv_X12_keepsRow q_1005 (C_X12_keepsRow w.2.1 a0 σ332 h333 (okr_of k_a0)) ⟨Nat.le_of_ble_eq_true rfl, Nat.le_of_ble_eq_true rfl⟩ (G.gx w) w.1 k_a0.1 k_a0.2 rfl rfl hl.1 (Nat.le_of_ble_eq_true rfl) (dcs_get dec_X12_init_10 25 rfl) ⟨Nat.le_of_ble_eq_true rfl, Nat.le_of_ble_eq_true rfl⟩) (G.gx w) w.1 (fun H locs w1 => ?_)
  have w := Wa_lax w w1
  have e9 := Option.some.inj hf
  refine W.widen (k := 46) (n := 26531) (Nat.le_of_ble_eq_true rfl) (Nat.le_of_ble_eq_true rfl) ?_
  exact r_vretA hsz G w hm (fun h => by cases h) (congrArg Prod.fst e9) (congrArg Prod.snd e9) (dcs_get dec_X12_init_10 26 rfl)
end
set_option maxRecDepth 100000 in
set_option maxHeartbeats 16000000 in
theorem C_X12_init {l : Launch} {D : va_G} {ay : Nat → ClassId} {ad : Nat → Nat} {n n' sz : Nat} {σ σ' : hSt} (hi : hInj n ad) (hR : RO n σ) (a0 : Nat) (hf : F_X12_init a0 n σ = some (n', σ')) (k_a0 : a0 < n ∧ (kM a0).1 = 12) : hMA l D ay kM n ad sz yX12_init cX12_init 1 (rmA 2 48 46 26531) [.ref (ad a0)] σ false n' σ' 46 26531 := by
  refine hMA_in (by decide) rfl hi hR (Nat.le_of_ble_eq_true rfl) ?_
  intro p e s m below meth c hsz G hm w ls hl
  exact B_X12_init a0 n σ hsz G hm hf k_a0 w hl
